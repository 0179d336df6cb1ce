/-! tables: what both sides find, as numbers -/
theorem tw_up {c no : Nat} {K : Nat → Cuts} {s x u : Nat → Int32} {k i : Nat} (h : tw c no K s x u k i) : ∀ j, tw c no K s x u (k + j) i := by
  intro j
  induction j with
  | zero => exact h
  | succ j ih => exact Or.inl ih
theorem tw_mono {c no : Nat} {K : Nat → Cuts} {s x u : Nat → Int32} {k l i : Nat} (hkl : k ≤ l) (h : tw c no K s x u k i) : tw c no K s x u l i := by
  have := tw_up h (l - k)
  rw [Nat.add_sub_cancel' hkl] at this
  exact this
theorem tw_lt {c no : Nat} {K : Nat → Cuts} {s x u : Nat → Int32} (hK : ∀ g, g < c → s g = 2 → (K g).2 0 < 2 ^ g) : ∀ k, k ≤ c → ∀ i, tw c no K s x u k i → i < c ∧ s i = 2 := by
  intro k
  induction k with
  | zero => intro _ i h; exact ⟨h.1, h.2.1⟩
  | succ k ih =>
    intro hk i h
    rcases h with h | ⟨h1, h2, h3⟩
    · exact ih (by omega) i h
    · refine ⟨?_, h3⟩
      by_cases hi : i < c
      · exact hi
      · rw [ct_tb (hK (c - 1 - k) (by omega) (ih (by omega) _ h1).2) (by omega)] at h2
        cases h2
/-- what stands behind is not asked for later -/
theorem tw_st {c no : Nat} {K : Nat → Cuts} {s x u : Nat → Int32} (hK : ∀ g, g < c → s g = 2 → (K g).2 0 < 2 ^ g) {k i : Nat} (hi : c ≤ i + k + 1) : ∀ j, k + j ≤ c → tw c no K s x u (k + j) i → tw c no K s x u k i := by
  intro j
  induction j with
  | zero => intro _ h; exact h
  | succ j ih =>
    intro hj h
    have h' : tw c no K s x u (k + j) i ∨ (tw c no K s x u (k + j) (c - 1 - (k + j)) ∧ ((K (c - 1 - (k + j))).2 0).testBit i = true ∧ s i = 2) := h
    rcases h' with h | ⟨h1, h2, h3⟩
    · exact ih (by omega) h
    · rw [ct_tb (hK (c - 1 - (k + j)) (by omega) (tw_lt hK (k + j) (by omega) _ h1).2) (by omega)] at h2
      cases h2
theorem tw_at {c no : Nat} {K : Nat → Cuts} {s x u : Nat → Int32} (hK : ∀ g, g < c → s g = 2 → (K g).2 0 < 2 ^ g) {W : Nat → Bool} (hW : ∀ i, W i = true ↔ tw c no K s x u c i) {k : Nat} (hk : k < c) : W (c - 1 - k) = true ↔ tw c no K s x u k (c - 1 - k) := by
  rw [hW]
  constructor
  · intro h
    refine tw_st hK (k := k) (by omega) (c - k) (by omega) ?_
    rw [Nat.add_sub_cancel' (by omega)]
    exact h
  · exact fun h => tw_mono (by omega) h
theorem W_cone {c no : Nat} {K : Nat → Cuts} {s x u : Nat → Int32} (hK : ∀ g, g < c → s g = 2 → (K g).2 0 < 2 ^ g) {W : Nat → Bool} (hW : ∀ i, W i = true ↔ tw c no K s x u c i) {g i : Nat} (hg : g < c) (h : W g = true) (hb : ((K g).2 0).testBit i = true) (hs : s i = 2) : W i = true := by
  have e : c - 1 - (c - 1 - g) = g := by omega
  have h1 := (tw_at hK hW (k := c - 1 - g) (by omega)).mp (by rw [e]; exact h)
  rw [hW]
  refine tw_mono (k := c - 1 - g + 1) (by omega) (Or.inr ⟨h1, ?_, hs⟩)
  rw [e]
  exact hb
def ct_cr (W : Nat → Bool) (c : Nat) : Nat → Nat
  | 0 => 0
  | k + 1 => if W (c - 1 - k) = true then ct_cr W c k + 1 else ct_cr W c k
theorem ct_cr_eq (W : Nat → Bool) (c : Nat) : ∀ k, k ≤ c → ct_cnt W (c - k) + ct_cr W c k = ct_cnt W c := by
  intro k
  induction k with
  | zero => intro _; rfl
  | succ k ih =>
    intro hk
    have h := ih (by omega)
    have e : c - k = (c - 1 - k) + 1 := by omega
    have e2 : c - (k + 1) = c - 1 - k := by omega
    rw [e] at h
    have h' : (if W (c - 1 - k) = true then ct_cnt W (c - 1 - k) + 1 else ct_cnt W (c - 1 - k)) + ct_cr W c k = ct_cnt W c := h
    rw [e2]
    show ct_cnt W (c - 1 - k) + (if W (c - 1 - k) = true then ct_cr W c k + 1 else ct_cr W c k) = ct_cnt W c
    by_cases q : W (c - 1 - k) = true
    · rw [if_pos q] at h' ⊢; omega
    · rw [if_neg q] at h' ⊢; exact h'
theorem ct_cnt_le (W : Nat → Bool) : ∀ k, ct_cnt W k ≤ k := by
  intro k
  induction k with
  | zero => exact Nat.le_refl _
  | succ k ih =>
    show (if W k = true then ct_cnt W k + 1 else ct_cnt W k) ≤ k + 1
    split <;> omega
theorem ct_pop_mono (s : Nat) {a : Nat} : ∀ k, a ≤ k → ct_pop a s ≤ ct_pop k s := by
  intro k
  induction k with
  | zero => intro h; rw [show a = 0 by omega]; exact Nat.le_refl _
  | succ k ih =>
    intro h
    by_cases e : a = k + 1
    · rw [e]; exact Nat.le_refl _
    · have := ih (by omega)
      show _ ≤ (if s.testBit k = true then ct_pop k s + 1 else ct_pop k s)
      split <;> omega
theorem ct_pop_lt {s i : Nat} (hb : s.testBit i = true) {k : Nat} (h : i < k) : ct_pop i s < ct_pop k s := by
  have h1 := ct_pop_mono s (a := i + 1) k (by omega)
  have h2 : ct_pop (i + 1) s = (if s.testBit i = true then ct_pop i s + 1 else ct_pop i s) := rfl
  rw [if_pos hb] at h2
  omega
/-- the letter of a place -/
theorem ct_pop_at (s : Nat) : ∀ k j, j < ct_pop k s → ∃ i, i < k ∧ s.testBit i = true ∧ ct_pop i s = j := by
  intro k
  induction k with
  | zero => intro j h; exact absurd h (Nat.not_lt_zero _)
  | succ k ih =>
    intro j h
    have h' : j < (if s.testBit k = true then ct_pop k s + 1 else ct_pop k s) := h
    by_cases hb : s.testBit k = true
    · rw [if_pos hb] at h'
      by_cases e : j = ct_pop k s
      · exact ⟨k, by omega, hb, e.symm⟩
      · obtain ⟨i, h1, h2, h3⟩ := ih j (by omega)
        exact ⟨i, by omega, h2, h3⟩
    · rw [if_neg hb] at h'
      obtain ⟨i, h1, h2, h3⟩ := ih j h'
      exact ⟨i, by omega, h2, h3⟩
/-- the values of all cells up to a gate, letters given -/
def opB (o : Nat) (a b : Bool) : Bool := if o = 0 then a && b else if o = 1 then a || b else a ^^ b
def valR (I : MI) (s : Nat) (V : Nat → Nat → Bool) (i c : Nat) : Bool := if s.testBit c = true then i.testBit (ct_pop c s) else if I 2 c = 2 then opB (I 5 c).toNatClampNeg (V i ((I 3 c).toNatClampNeg / 2) ^^ (I 3 c).toNatClampNeg.testBit 0) (V i ((I 4 c).toNatClampNeg / 2) ^^ (I 4 c).toNatClampNeg.testBit 0) else false
def valOk (I : MI) (g s : Nat) (V : Nat → Nat → Bool) : Prop := ∀ i, i < 16 → ∀ c, c ≤ g → V i c = valR I s V i c
def gateIn (I : MI) (c : Nat) : Prop := I 2 c = 2 → ∃ x y o, x < 2 * c ∧ y < 2 * c ∧ o < 3 ∧ I 3 c = nI x ∧ I 4 c = nI y ∧ I 5 c = nI o
theorem valR_congr {I : MI} {s : Nat} {V V' : Nat → Nat → Bool} {i c : Nat} (hc : c < 32) (hg : gateIn I c) (h : ∀ z, z < c → V i z = V' i z) : valR I s V i c = valR I s V' i c := by
  unfold valR
  by_cases hb : s.testBit c = true
  · rw [if_pos hb, if_pos hb]
  · rw [if_neg hb, if_neg hb]
    by_cases hs : I 2 c = 2
    · obtain ⟨x, y, o, hx, hy, ho, e3, e4, e5⟩ := hg hs
      rw [if_pos hs, if_pos hs, e3, e4, nI_clamp (by omega), nI_clamp (by omega), h (x / 2) (by omega), h (y / 2) (by omega)]
    · rw [if_neg hs, if_neg hs]
theorem valR_fr {I I' : MI} {s : Nat} {V : Nat → Nat → Bool} {i c : Nat} (h : ∀ a ∈ [2, 3, 4, 5], I' a = I a) : valR I' s V i c = valR I s V i c := by
  unfold valR
  rw [h 2 (by decide), h 3 (by decide), h 4 (by decide), h 5 (by decide)]
def vb (f : Nat → Bool) : Nat → Nat
  | 0 => 0
  | k + 1 => if f k = true then vb f k ||| 2 ^ k else vb f k
theorem vb_bit (f : Nat → Bool) (z : Nat) : ∀ k, (vb f k).testBit z = (decide (z < k) && f z) := by
  intro k
  induction k with
  | zero => simp [vb]
  | succ k ih =>
    show (if f k = true then vb f k ||| 2 ^ k else vb f k).testBit z = _
    by_cases hf : f k = true
    · rw [if_pos hf, Nat.testBit_or, ih, Nat.testBit_two_pow]
      by_cases e : k = z
      · subst e; simp [hf]
      · have : (z < k + 1) ↔ z < k := by omega
        simp [e, this]
    · rw [if_neg hf, ih]
      by_cases e : k = z
      · subst e
        have : f k = false := by cases h : f k <;> simp_all
        simp [this]
      · have : (z < k + 1) ↔ z < k := by omega
        simp [this]
theorem vb_eq {f : Nat → Bool} {b k : Nat} (hb : b < 2 ^ k) (h : ∀ i, i < k → b.testBit i = f i) : b = vb f k := by
  apply Nat.eq_of_testBit_eq
  intro z
  rw [vb_bit]
  by_cases hz : z < k
  · rw [h z hz]; simp [hz]
  · rw [ct_tb hb (by omega)]; simp [hz]
def bi (b : Bool) : Int32 := if b = true then 1 else 0
theorem bi_0 {b : Bool} : bi b = 0 ↔ b = false := by cases b <;> decide
theorem bi_z (b : Bool) : bz (bi b) = bi b := by cases b <;> decide
