/-! cuts: what both sides reckon, as numbers -/
def ct_md (D : Nat → Nat) : Nat → Nat → Nat
  | 0, _ => 0
  | k + 1, s => if s.testBit k = true then max (ct_md D k s) (D k) else ct_md D k s
def ct_pop : Nat → Nat → Nat
  | 0, _ => 0
  | k + 1, s => if s.testBit k = true then ct_pop k s + 1 else ct_pop k s
def ct_rk (g : Nat) (D : Nat → Nat) (s : Nat) : Nat := (1 + ct_md D g s) * 1099511627776 + ct_pop 32 s * 4294967296 + s
def ct_pos (P : Nat → Bool) : Nat → Nat
  | 0 => 0
  | k + 1 => if ct_pos P k < k then ct_pos P k else if P k = true then k + 1 else k
abbrev Cuts : Type := Nat × (Nat → Nat)
def ct_at (r : Nat → Nat) (s : Nat) (p : Cuts) : Nat := ct_pos (fun i => decide (r (p.2 i) < r s)) p.1
def ct_put (a s : Nat) (p : Cuts) : Cuts := (min p.1 39 + 1, fun i => if i < a then p.2 i else if i = a then s else p.2 (i - 1))
def ct_ent (r : Nat → Nat) (s : Nat) (p : Cuts) : Cuts := if (ct_at r s p < p.1 ∧ p.2 (ct_at r s p) = s) ∨ 40 ≤ ct_at r s p then p else ct_put (ct_at r s p) s p
def ct_stp (r : Nat → Nat) (s : Nat) (p : Cuts) : Cuts := if ct_pop 32 s ≤ 4 then ct_ent r s p else p
def ct_inn (r : Nat → Nat) (s : Nat) (f : Nat → Nat) : Nat → Cuts → Cuts
  | 0, p => p
  | k + 1, p => ct_stp r (s ||| f k) (ct_inn r s f k p)
def ct_out (r : Nat → Nat) (e : Nat → Nat) (m : Nat) (f : Nat → Nat) : Nat → Cuts
  | 0 => (0, fun _ => 0)
  | k + 1 => ct_inn r (e k) f (m + 1) (ct_out r e m f k)
def ct_ch (p : Cuts) (c i : Nat) : Nat := if i < p.1 then p.2 i else 2 ^ c
def ct_gl (r : Nat → Nat) (p : Cuts) (a : Nat) (q : Cuts) (b : Nat) : Cuts := ct_out r (ct_ch p a) q.1 (ct_ch q b) (p.1 + 1)
theorem ct_pos_le (P : Nat → Bool) : ∀ k, ct_pos P k ≤ k := by
  intro k
  induction k with
  | zero => exact Nat.le_refl _
  | succ k ih =>
    show (if ct_pos P k < k then ct_pos P k else if P k = true then k + 1 else k) ≤ k + 1
    split
    · omega
    · split <;> omega
theorem ct_pos_lt (P : Nat → Bool) : ∀ k i, i < ct_pos P k → P i = true := by
  intro k
  induction k with
  | zero => intro i hi; exact absurd hi (Nat.not_lt_zero _)
  | succ k ih =>
    intro i hi
    have hi' : i < (if ct_pos P k < k then ct_pos P k else if P k = true then k + 1 else k) := hi
    have hle := ct_pos_le P k
    by_cases h : ct_pos P k < k
    · rw [if_pos h] at hi'; exact ih i hi'
    · rw [if_neg h] at hi'
      have e : ct_pos P k = k := by omega
      by_cases h2 : P k = true
      · rw [if_pos h2] at hi'
        by_cases h3 : i = k
        · rw [h3]; exact h2
        · exact ih i (by omega)
      · rw [if_neg h2] at hi'; exact ih i (by omega)
theorem ct_pos_at (P : Nat → Bool) : ∀ k, ct_pos P k < k → P (ct_pos P k) = false := by
  intro k
  induction k with
  | zero => intro h; exact absurd h (Nat.not_lt_zero _)
  | succ k ih =>
    intro hlt
    have e0 : ct_pos P (k + 1) = (if ct_pos P k < k then ct_pos P k else if P k = true then k + 1 else k) := rfl
    have hle := ct_pos_le P k
    rw [e0] at hlt ⊢
    by_cases h : ct_pos P k < k
    · rw [if_pos h]; exact ih h
    · rw [if_neg h] at hlt ⊢
      by_cases h2 : P k = true
      · rw [if_pos h2] at hlt; omega
      · rw [if_neg h2]
        cases hp : P k with
        | false => rfl
        | true => exact absurd hp h2
theorem ct_pos_eq (P : Nat → Bool) {k a : Nat} (h1 : a ≤ k) (h2 : ∀ i, i < a → P i = true) (h3 : a < k → P a = false) : ct_pos P k = a := by
  rcases Nat.lt_trichotomy (ct_pos P k) a with h | h | h
  · have q := ct_pos_at P k (by omega)
    rw [h2 _ h] at q
    cases q
  · exact h
  · have q := ct_pos_lt P k a h
    rw [h3 (by have := ct_pos_le P k; omega)] at q
    cases q
theorem ct_at_eq {r : Nat → Nat} {s : Nat} {p : Cuts} {a : Nat} (h1 : a ≤ p.1) (h2 : ∀ i, i < a → r (p.2 i) < r s) (h3 : a < p.1 → r s ≤ r (p.2 a)) : ct_at r s p = a := by
  refine ct_pos_eq _ h1 (fun i hi => decide_eq_true (h2 i hi)) (fun h => decide_eq_false ?_)
  have := h3 h
  omega
theorem ct_at_le (r : Nat → Nat) (s : Nat) (p : Cuts) : ct_at r s p ≤ p.1 := ct_pos_le _ _
theorem ct_at_lt {r : Nat → Nat} {s : Nat} {p : Cuts} {i : Nat} (h : i < ct_at r s p) : r (p.2 i) < r s := of_decide_eq_true (ct_pos_lt _ _ i h)
theorem ct_at_at {r : Nat → Nat} {s : Nat} {p : Cuts} (h : ct_at r s p < p.1) : r s ≤ r (p.2 (ct_at r s p)) := by
  have := of_decide_eq_false (ct_pos_at (fun i => decide (r (p.2 i) < r s)) p.1 h)
  exact Nat.not_lt.mp this
theorem ct_tb {s a k : Nat} (h : s < 2 ^ a) (hk : a ≤ k) : s.testBit k = false := Nat.testBit_lt_two_pow (Nat.lt_of_lt_of_le h (Nat.pow_le_pow_right (by decide) hk))
theorem ct_md_congr {D E : Nat → Nat} {g : Nat} (h : ∀ i, i < g → E i = D i) : ∀ k, k ≤ g → ∀ s, ct_md E k s = ct_md D k s := by
  intro k
  induction k with
  | zero => intro _ s; rfl
  | succ k ih =>
    intro hk s
    show (if s.testBit k = true then max (ct_md E k s) (E k) else ct_md E k s) = (if s.testBit k = true then max (ct_md D k s) (D k) else ct_md D k s)
    rw [ih (by omega) s, h k (by omega)]
theorem ct_rk_congr {D E : Nat → Nat} {g : Nat} (h : ∀ i, i < g → E i = D i) : ct_rk g E = ct_rk g D := by
  funext s
  unfold ct_rk
  rw [ct_md_congr h g (Nat.le_refl _) s]
theorem ct_md_or (D : Nat → Nat) (s t : Nat) : ∀ k, ct_md D k (s ||| t) = max (ct_md D k s) (ct_md D k t) := by
  intro k
  induction k with
  | zero => rfl
  | succ k ih =>
    show (if (s ||| t).testBit k = true then max (ct_md D k (s ||| t)) (D k) else ct_md D k (s ||| t)) = max (if s.testBit k = true then max (ct_md D k s) (D k) else ct_md D k s) (if t.testBit k = true then max (ct_md D k t) (D k) else ct_md D k t)
    rw [ih, Nat.testBit_or]
    cases s.testBit k <;> cases t.testBit k <;> simp only [Bool.or_self, Bool.or_true, Bool.or_false, Bool.true_or, Bool.false_or, if_true, if_false, Bool.false_eq_true] <;> omega
theorem ct_md_ext {D : Nat → Nat} {a s : Nat} (h : s < 2 ^ a) : ∀ k, a ≤ k → ct_md D k s = ct_md D a s := by
  intro k
  induction k with
  | zero => intro hk; rw [show a = 0 by omega]
  | succ k ih =>
    intro hk
    by_cases e : a = k + 1
    · rw [e]
    · show (if s.testBit k = true then max (ct_md D k s) (D k) else ct_md D k s) = _
      rw [ct_tb h (show a ≤ k by omega), if_neg (by decide)]
      exact ih (by omega)
theorem ct_md_pow (D : Nat → Nat) {a : Nat} : ∀ k, a < k → ct_md D k (2 ^ a) = D a := by
  have z : ∀ k, k ≤ a → ct_md D k (2 ^ a) = 0 := by
    intro k
    induction k with
    | zero => intro _; rfl
    | succ k ih =>
      intro hk
      show (if (2 ^ a).testBit k = true then max (ct_md D k (2 ^ a)) (D k) else ct_md D k (2 ^ a)) = 0
      rw [Nat.testBit_two_pow, decide_eq_false (show ¬ a = k by omega), if_neg (by decide)]
      exact ih (by omega)
  intro k hk
  rw [ct_md_ext (a := a + 1) (Nat.pow_lt_pow_right (by decide) (by omega)) k hk]
  show (if (2 ^ a).testBit a = true then max (ct_md D a (2 ^ a)) (D a) else ct_md D a (2 ^ a)) = D a
  rw [Nat.testBit_two_pow, decide_eq_true rfl, if_pos rfl, z a (Nat.le_refl _)]
  omega
theorem ct_md_le {D : Nat → Nat} {B : Nat} : ∀ k, (∀ i, i < k → D i ≤ B) → ∀ s, ct_md D k s ≤ B := by
  intro k
  induction k with
  | zero => intro _ s; exact Nat.zero_le _
  | succ k ih =>
    intro h s
    have h1 := ih (fun i hi => h i (by omega)) s
    have h2 := h k (by omega)
    show (if s.testBit k = true then max (ct_md D k s) (D k) else ct_md D k s) ≤ B
    split <;> omega
theorem ct_pop_le (s : Nat) : ∀ k, ct_pop k s ≤ k := by
  intro k
  induction k with
  | zero => exact Nat.le_refl _
  | succ k ih =>
    show (if s.testBit k = true then ct_pop k s + 1 else ct_pop k s) ≤ k + 1
    split <;> omega
theorem ct_pop_ext {a s : Nat} (h : s < 2 ^ a) : ∀ k, a ≤ k → ct_pop k s = ct_pop a s := by
  intro k
  induction k with
  | zero => intro hk; rw [show a = 0 by omega]
  | succ k ih =>
    intro hk
    by_cases e : a = k + 1
    · rw [e]
    · show (if s.testBit k = true then ct_pop k s + 1 else ct_pop k s) = _
      rw [ct_tb h (show a ≤ k by omega), if_neg (by decide)]
      exact ih (by omega)
theorem ct_pop_or (s t : Nat) : ∀ k, ct_pop k (s ||| t) ≤ ct_pop k s + ct_pop k t := by
  intro k
  induction k with
  | zero => exact Nat.zero_le _
  | succ k ih =>
    show (if (s ||| t).testBit k = true then ct_pop k (s ||| t) + 1 else ct_pop k (s ||| t)) ≤ (if s.testBit k = true then ct_pop k s + 1 else ct_pop k s) + (if t.testBit k = true then ct_pop k t + 1 else ct_pop k t)
    rw [Nat.testBit_or]
    cases s.testBit k <;> cases t.testBit k <;> simp only [Bool.or_self, Bool.or_true, Bool.or_false, Bool.true_or, Bool.false_or, if_true, if_false, Bool.false_eq_true] <;> omega
theorem ct_pop_pow {a : Nat} : ∀ k, a < k → ct_pop k (2 ^ a) = 1 := by
  have z : ∀ k, k ≤ a → ct_pop k (2 ^ a) = 0 := by
    intro k
    induction k with
    | zero => intro _; rfl
    | succ k ih =>
      intro hk
      show (if (2 ^ a).testBit k = true then ct_pop k (2 ^ a) + 1 else ct_pop k (2 ^ a)) = 0
      rw [Nat.testBit_two_pow, decide_eq_false (show ¬ a = k by omega), if_neg (by decide)]
      exact ih (by omega)
  intro k hk
  rw [ct_pop_ext (a := a + 1) (Nat.pow_lt_pow_right (by decide) (by omega)) k hk]
  show (if (2 ^ a).testBit a = true then ct_pop a (2 ^ a) + 1 else ct_pop a (2 ^ a)) = 1
  rw [Nat.testBit_two_pow, decide_eq_true rfl, if_pos rfl, z a (Nat.le_refl _)]
theorem ct_lt32 {g s : Nat} (hg : g ≤ 32) (h : s < 2 ^ g) : s < 4294967296 := Nat.lt_of_lt_of_le h (show 2 ^ g ≤ 2 ^ 32 from Nat.pow_le_pow_right (by decide) hg)
theorem ct_rk_inj {g : Nat} {D : Nat → Nat} {s t : Nat} (hs : s < 4294967296) (ht : t < 4294967296) (h : ct_rk g D s = ct_rk g D t) : s = t := by
  unfold ct_rk at h
  omega
theorem ct_rk_lt {g : Nat} {D : Nat → Nat} {s t : Nat} (hs : s < 4294967296) (ht : t < 4294967296) : ct_rk g D s < ct_rk g D t ↔ (if ct_md D g s = ct_md D g t then (if ct_pop 32 s = ct_pop 32 t then s < t else ct_pop 32 s < ct_pop 32 t) else ct_md D g s < ct_md D g t) := by
  have h1 := ct_pop_le s 32
  have h2 := ct_pop_le t 32
  unfold ct_rk
  split
  · split <;> omega
  · omega
/-- a row of cuts in its order, and what holds of each -/
def ct_ok (r : Nat → Nat) (g : Nat) (p : Cuts) : Prop := p.1 ≤ 40 ∧ (∀ i j, i < j → j < p.1 → r (p.2 i) < r (p.2 j)) ∧ ∀ i, i < p.1 → p.2 i < 2 ^ g ∧ ct_pop 32 (p.2 i) ≤ 4
theorem ct_ent_ok {r : Nat → Nat} {g s : Nat} {p : Cuts} (hp : ct_ok r g p) (hs : s < 2 ^ g) (h4 : ct_pop 32 s ≤ 4) (hi : ∀ t, t < 2 ^ g → r t = r s → t = s) : ct_ok r g (ct_ent r s p) := by
  unfold ct_ent
  by_cases hc : (ct_at r s p < p.1 ∧ p.2 (ct_at r s p) = s) ∨ 40 ≤ ct_at r s p
  · rw [if_pos hc]; exact hp
  rw [if_neg hc]
  obtain ⟨p1, p2, p3⟩ := hp
  have hle := ct_at_le r s p
  have hl : ∀ i, i < ct_at r s p → r (p.2 i) < r s := fun i h => ct_at_lt h
  have hge : ∀ j, ct_at r s p ≤ j → j < p.1 → r s < r (p.2 j) := by
    intro j h1 h2
    have h3 := ct_at_at (r := r) (s := s) (p := p) (by omega)
    have h4 : r s < r (p.2 (ct_at r s p)) := by
      rcases Nat.lt_or_eq_of_le h3 with q | q
      · exact q
      · exact absurd (Or.inl ⟨by omega, hi _ (p3 _ (by omega)).1 q.symm⟩) hc
    by_cases e : j = ct_at r s p
    · rw [e]; exact h4
    · exact Nat.lt_trans h4 (p2 _ j (by omega) h2)
  generalize ct_at r s p = a at *
  unfold ct_put
  refine ⟨by show min p.1 39 + 1 ≤ 40; omega, fun i j hij hj => ?_, fun i hi' => ?_⟩
  · have hj' : j < min p.1 39 + 1 := hj
    show r (if i < a then p.2 i else if i = a then s else p.2 (i - 1)) < r (if j < a then p.2 j else if j = a then s else p.2 (j - 1))
    by_cases j1 : j < a
    · rw [if_pos j1, if_pos (by omega)]
      exact p2 i j hij (by omega)
    · by_cases j2 : j = a
      · rw [if_neg j1, if_pos j2, if_pos (by omega)]
        exact hl i (by omega)
      · rw [if_neg j1, if_neg j2]
        by_cases i1 : i < a
        · rw [if_pos i1]
          exact Nat.lt_trans (hl i i1) (hge (j - 1) (by omega) (by omega))
        · by_cases i2 : i = a
          · rw [if_neg i1, if_pos i2]
            exact hge (j - 1) (by omega) (by omega)
          · rw [if_neg i1, if_neg i2]
            exact p2 (i - 1) (j - 1) (by omega) (by omega)
  · have hj' : i < min p.1 39 + 1 := hi'
    show (if i < a then p.2 i else if i = a then s else p.2 (i - 1)) < 2 ^ g ∧ ct_pop 32 (if i < a then p.2 i else if i = a then s else p.2 (i - 1)) ≤ 4
    by_cases i1 : i < a
    · rw [if_pos i1]; exact p3 i (by omega)
    · by_cases i2 : i = a
      · rw [if_neg i1, if_pos i2]; exact ⟨hs, h4⟩
      · rw [if_neg i1, if_neg i2]; exact p3 (i - 1) (by omega)
theorem ct_ent_1 {r : Nat → Nat} {s : Nat} {p : Cuts} : 1 ≤ (ct_ent r s p).1 := by
  unfold ct_ent
  by_cases hc : (ct_at r s p < p.1 ∧ p.2 (ct_at r s p) = s) ∨ 40 ≤ ct_at r s p
  · rw [if_pos hc]
    have hle := ct_at_le r s p
    omega
  · rw [if_neg hc]
    exact Nat.le_add_left _ _
theorem ct_stp_ok {g : Nat} {D : Nat → Nat} (hg : g ≤ 32) {s : Nat} {p : Cuts} (hp : ct_ok (ct_rk g D) g p) (hs : s < 2 ^ g) : ct_ok (ct_rk g D) g (ct_stp (ct_rk g D) s p) := by
  unfold ct_stp
  by_cases h : ct_pop 32 s ≤ 4
  · rw [if_pos h]
    exact ct_ent_ok hp hs h (fun t ht e => ct_rk_inj (ct_lt32 hg ht) (ct_lt32 hg hs) e)
  · rw [if_neg h]; exact hp
theorem ct_inn_ok {g : Nat} {D : Nat → Nat} (hg : g ≤ 32) {s : Nat} (hs : s < 2 ^ g) {f : Nat → Nat} (hf : ∀ i, f i < 2 ^ g) : ∀ k p, ct_ok (ct_rk g D) g p → ct_ok (ct_rk g D) g (ct_inn (ct_rk g D) s f k p) := by
  intro k
  induction k with
  | zero => intro p hp; exact hp
  | succ k ih => intro p hp; exact ct_stp_ok hg (ih p hp) (Nat.or_lt_two_pow hs (hf k))
theorem ct_out_ok {g : Nat} {D : Nat → Nat} (hg : g ≤ 32) {e : Nat → Nat} (he : ∀ i, e i < 2 ^ g) {m : Nat} {f : Nat → Nat} (hf : ∀ i, f i < 2 ^ g) : ∀ k, ct_ok (ct_rk g D) g (ct_out (ct_rk g D) e m f k) := by
  intro k
  induction k with
  | zero => exact ⟨Nat.zero_le _, fun i j _ h => absurd h (Nat.not_lt_zero _), fun i h => absurd h (Nat.not_lt_zero _)⟩
  | succ k ih => exact ct_inn_ok hg (he k) hf _ _ ih
theorem ct_ch_lt {r : Nat → Nat} {p : Cuts} {a g : Nat} (hp : ct_ok r a p) (h : a < g) (i : Nat) : ct_ch p a i < 2 ^ g := by
  unfold ct_ch
  by_cases hi : i < p.1
  · rw [if_pos hi]
    exact Nat.lt_of_lt_of_le (hp.2.2 i hi).1 (Nat.pow_le_pow_right (by decide) (by omega))
  · rw [if_neg hi]
    exact Nat.pow_lt_pow_right (by decide) h
theorem ct_gl_1 {r : Nat → Nat} {p q : Cuts} {a b : Nat} (ha : a < 32) (hb : b < 32) : 1 ≤ (ct_gl r p a q b).1 := by
  show 1 ≤ (ct_stp r (ct_ch p a p.1 ||| ct_ch q b q.1) (ct_inn r (ct_ch p a p.1) (ct_ch q b) q.1 (ct_out r (ct_ch p a) q.1 (ct_ch q b) p.1))).1
  have e1 : ct_ch p a p.1 = 2 ^ a := if_neg (Nat.lt_irrefl _)
  have e2 : ct_ch q b q.1 = 2 ^ b := if_neg (Nat.lt_irrefl _)
  rw [e1, e2]
  unfold ct_stp
  rw [if_pos (by have := ct_pop_or (2 ^ a) (2 ^ b) 32; rw [ct_pop_pow 32 ha, ct_pop_pow 32 hb] at this; omega)]
  exact ct_ent_1
/-- the cuts K and the depths D of the net -/
def kOk (K : Nat → Cuts) (D : Nat → Nat) (I : MI) (g : Nat) : Prop := (¬ I 2 g = 2 ∧ (K g).1 = 0 ∧ D g = 0) ∨ (I 2 g = 2 ∧ ∃ x y, x < 2 * g ∧ y < 2 * g ∧ I 3 g = nI x ∧ I 4 g = nI y ∧ K g = ct_gl (ct_rk g D) (K (x / 2)) (x / 2) (K (y / 2)) (y / 2) ∧ D g = 1 + ct_md D g ((K g).2 0))
def kcOk (K : Nat → Cuts) (D : Nat → Nat) (I : MI) (J : MJ) (g : Nat) : Prop := I 8 g = nI (K g).1 ∧ I 9 g = nI (D g) ∧ ∀ i, i < (K g).1 → J 10 (40 * g + i) = lN (ct_rk g D ((K g).2 i))
def krOk (K : Nat → Cuts) (D : Nat → Nat) (I : MI) (g : Nat) : Prop := I 53 g = nI (K g).1 ∧ I 54 g = nI (D g) ∧ ∀ i, i < (K g).1 → I 52 (40 * g + i) = nI ((K g).2 i)
def PK (c : Nat) (I : MI) (J : MJ) : Prop := (I 44 15 = 0 ∨ I 44 15 = 1) ∧ ∃ K D, (∀ g, g < c → kOk K D I g) ∧ (∀ g, g < c → kcOk K D I J g) ∧ (I 44 15 = 1 → ∀ g, g < c → krOk K D I g)
theorem kOk_wf {K : Nat → Cuts} {D : Nat → Nat} {I : MI} {c : Nat} (hc : c ≤ 32) (h : ∀ g, g < c → kOk K D I g) : ∀ g, g < c → ct_ok (ct_rk g D) g (K g) ∧ D g ≤ g ∧ (I 2 g = 2 → 1 ≤ (K g).1) := by
  intro g
  induction g using Nat.strongRecOn with
  | ind g ih =>
    intro hg
    rcases h g hg with ⟨h1, h2, h3⟩ | ⟨h1, x, y, hx, hy, -, -, h4, h5⟩
    · refine ⟨⟨by omega, fun i j _ q => absurd q (by omega), fun i q => absurd q (by omega)⟩, by omega, fun q => absurd q h1⟩
    · have ia := ih (x / 2) (by omega) (by omega)
      have ib := ih (y / 2) (by omega) (by omega)
      refine ⟨?_, ?_, fun _ => ?_⟩
      · rw [h4]
        exact ct_out_ok (by omega) (ct_ch_lt ia.1 (by omega)) (ct_ch_lt ib.1 (by omega)) _
      · rw [h5]
        have := ct_md_le (D := D) (B := g - 1) g (fun i hi => by have := (ih i hi (by omega)).2.1; omega) ((K g).2 0)
        omega
      · rw [h4]
        exact ct_gl_1 (by omega) (by omega)
theorem PK_fr {c : Nat} {I I' : MI} {J J' : MJ} (h : ∀ a ∈ [2, 3, 4, 8, 9, 52, 53, 54], I' a = I a) (h4 : I' 44 15 = I 44 15) (hJ : J' 10 = J 10) (hp : PK c I J) : PK c I' J' := by
  unfold PK kOk kcOk krOk
  rw [hJ, h4, h 2 (by decide), h 3 (by decide), h 4 (by decide), h 8 (by decide), h 9 (by decide), h 52 (by decide), h 53 (by decide), h 54 (by decide)]
  exact hp
/-- what a changed net leaves of its cuts: the class's side -/
theorem PK_chg {c : Nat} {I I' : MI} {J J' : MJ} (h : ∀ a ∈ [2, 8, 9], ∀ g, g < c → I' a g = I a g) (h3 : ∀ g, g < c → I 2 g = 2 → I' 3 g = I 3 g ∧ I' 4 g = I 4 g) (h4 : I' 44 15 = 0) (hJ : J' 10 = J 10) (hp : PK c I J) : PK c I' J' := by
  obtain ⟨-, K, D, k1, k2, -⟩ := hp
  refine ⟨Or.inl h4, K, D, fun g hg => ?_, fun g hg => ?_, fun q => absurd (h4.symm.trans q) (by decide)⟩
  · rcases k1 g hg with ⟨q1, q2, q3⟩ | ⟨q1, x, y, q2, q3, q4, q5, q6⟩
    · exact Or.inl ⟨by rw [h 2 (by decide) g hg]; exact q1, q2, q3⟩
    · obtain ⟨z3, z4⟩ := h3 g hg q1
      exact Or.inr ⟨by rw [h 2 (by decide) g hg]; exact q1, x, y, q2, q3, by rw [z3]; exact q4, by rw [z4]; exact q5, q6⟩
  · obtain ⟨q1, q2, q3⟩ := k2 g hg
    exact ⟨by rw [h 8 (by decide) g hg]; exact q1, by rw [h 9 (by decide) g hg]; exact q2, by rw [hJ]; exact q3⟩
/-- a net with one cell more: its cuts are given -/
theorem PK_add {c : Nat} {K : Nat → Cuts} {D : Nat → Nat} {I Y : MI} {J J' : MJ} (k1 : ∀ g, g < c → kOk K D I g) (k2 : ∀ g, g < c → kcOk K D I J g) (hc : c < 32) (h : ∀ a ∈ [2, 3, 4, 8, 9], ∀ g, g < c → Y a g = I a g) (h4 : Y 44 15 = 0) (hJ : ∀ i, i < 40 * c → J' 10 i = J 10 i)
    (hnew : (¬ Y 2 c = 2 ∧ Y 8 c = 0 ∧ Y 9 c = 0) ∨ (Y 2 c = 2 ∧ ∃ x y, x < 2 * c ∧ y < 2 * c ∧ Y 3 c = nI x ∧ Y 4 c = nI y ∧ ∃ L : Cuts, L = ct_gl (ct_rk c D) (K (x / 2)) (x / 2) (K (y / 2)) (y / 2) ∧ Y 8 c = nI L.1 ∧ Y 9 c = nI (1 + ct_md D c (L.2 0)) ∧ ∀ i, i < L.1 → J' 10 (40 * c + i) = lN (ct_rk c D (L.2 i)))) : PK (c + 1) Y J' := by
  have key : ∀ (L : Cuts) (d : Nat), (∀ K' D', K' c = L → D' c = d → (∀ g, g < c → K' g = K g) → (∀ g, g < c → D' g = D g) → kOk K' D' Y c ∧ kcOk K' D' Y J' c) → PK (c + 1) Y J' := by
    intro L d hall
    obtain ⟨K', D', kc, dc, kn, dn⟩ : ∃ (K' : Nat → Cuts) (D' : Nat → Nat), K' c = L ∧ D' c = d ∧ (∀ g, g < c → K' g = K g) ∧ (∀ g, g < c → D' g = D g) := ⟨fun i => if i = c then L else K i, fun i => if i = c then d else D i, if_pos rfl, if_pos rfl, fun g hg => if_neg (by omega), fun g hg => if_neg (by omega)⟩
    obtain ⟨a1, a2⟩ := hall K' D' kc dc kn dn
    have rn : ∀ g, g ≤ c → ct_rk g D' = ct_rk g D := fun g hg => ct_rk_congr (fun i hi => dn i (by omega))
    refine ⟨Or.inl h4, K', D', fun g hg => ?_, fun g hg => ?_, fun q => absurd (h4.symm.trans q) (by decide)⟩
    · by_cases e : g = c
      · rw [e]; exact a1
      · have hg' : g < c := by omega
        unfold kOk
        rw [kn g hg', dn g hg', rn g (by omega), h 2 (by decide) g hg', h 3 (by decide) g hg', h 4 (by decide) g hg']
        rcases k1 g hg' with q | ⟨q1, x, y, q2, q3, q4, q5, q6, q7⟩
        · exact Or.inl q
        · refine Or.inr ⟨q1, x, y, q2, q3, q4, q5, ?_, ?_⟩
          · rw [kn (x / 2) (by omega), kn (y / 2) (by omega)]; exact q6
          · rw [ct_md_congr (D := D) (g := g) (fun i hi => dn i (by omega)) g (Nat.le_refl _)]; exact q7
    · by_cases e : g = c
      · rw [e]; exact a2
      · have hg' : g < c := by omega
        unfold kcOk
        rw [kn g hg', dn g hg', rn g (by omega), h 8 (by decide) g hg', h 9 (by decide) g hg']
        obtain ⟨q1, q2, q3⟩ := k2 g hg'
        have hw := (kOk_wf (by omega) k1 g hg').1.1
        refine ⟨q1, q2, fun i hi => ?_⟩
        rw [hJ _ (by omega)]
        exact q3 i hi
  rcases hnew with ⟨n1, n2, n3⟩ | ⟨n1, x, y, hx, hy, n2, n3, L, hL, v1, v2, v3⟩
  · refine key (0, fun _ => 0) 0 (fun K' D' kc dc kn dn => ⟨Or.inl ⟨n1, by rw [kc], dc⟩, by rw [n2, kc]; rfl, by rw [n3, dc]; rfl, fun i hi => ?_⟩)
    rw [kc] at hi
    exact absurd hi (Nat.not_lt_zero _)
  · refine key L (1 + ct_md D c (L.2 0)) (fun K' D' kc dc kn dn => ?_)
    have rn : ct_rk c D' = ct_rk c D := ct_rk_congr (fun i hi => dn i hi)
    refine ⟨Or.inr ⟨n1, x, y, hx, hy, n2, n3, ?_, ?_⟩, ?_, ?_, fun i hi => ?_⟩
    · rw [kc, kn (x / 2) (by omega), kn (y / 2) (by omega), rn]
      exact hL
    · rw [kc, dc, ct_md_congr (D := D) (g := c) (fun i hi => dn i hi) c (Nat.le_refl _)]
    · rw [kc]; exact v1
    · rw [dc]; exact v2
    · rw [kc] at hi ⊢
      rw [rn]
      exact v3 i hi
theorem PK_plain {c : Nat} {I Y : MI} {J J' : MJ} (hp : PK c I J) (hc : c < 32) (h : ∀ a ∈ [2, 3, 4, 8, 9], ∀ g, g < c → Y a g = I a g) (h4 : Y 44 15 = 0) (hJ : ∀ i, i < 40 * c → J' 10 i = J 10 i) (hnew : ¬ Y 2 c = 2 ∧ Y 8 c = 0 ∧ Y 9 c = 0) : PK (c + 1) Y J' := by
  obtain ⟨-, K, D, k1, k2, -⟩ := hp
  exact PK_add k1 k2 hc h h4 hJ (Or.inl hnew)
