/-! the pure kit: memory, totality, small numbers -/
theorem upM_get (I : MI) (k j : Nat) (v : Int32) (a b : Nat) : upM I k j v a b = if a = k then (if b = j then v else I a b) else I a b := by
  unfold upM
  by_cases h : a = k
  · rw [if_pos h, if_pos h]; rfl
  · rw [if_neg h, if_neg h]
theorem upN_get (J : MJ) (k j : Nat) (v : Int64) (a b : Nat) : upN J k j v a b = if a = k then (if b = j then v else J a b) else J a b := by
  unfold upN
  by_cases h : a = k
  · rw [if_pos h, if_pos h]; rfl
  · rw [if_neg h, if_neg h]
def tot {β : Type} (x : Option β) (P : β → Prop) : Prop := ∃ r, x = some r ∧ P r
theorem tot_some {β : Type} {r : β} {P : β → Prop} : tot (some r) P ↔ P r := ⟨fun ⟨q, h, hp⟩ => by cases h; exact hp, fun h => ⟨r, rfl, h⟩⟩
theorem tot_lt {α β : Type} {x : α} {f : α → Option β} {P : β → Prop} : tot (lt x f) P ↔ tot (f x) P := Iff.rfl
theorem tot_bind {α β : Type} {x : Option α} {f : α → Option β} {P : β → Prop} : tot (x.bind f) P ↔ tot x (fun r => tot (f r) P) := by
  constructor
  · intro ⟨r, h, hp⟩
    obtain ⟨q, h1, h2⟩ := bd_s1 h
    exact ⟨q, h1, r, h2, hp⟩
  · intro ⟨q, h1, r, h2, hp⟩
    exact ⟨r, by rw [h1]; exact h2, hp⟩
theorem tot_ite {β : Type} {c : Prop} [Decidable c] {a b : Option β} {P : β → Prop} : tot (if c then a else b) P ↔ (c → tot a P) ∧ (¬ c → tot b P) := by
  by_cases h : c
  · rw [if_pos h]; exact ⟨fun t => ⟨fun _ => t, fun n => absurd h n⟩, fun t => t.1 h⟩
  · rw [if_neg h]; exact ⟨fun t => ⟨fun n => absurd n h, fun _ => t⟩, fun t => t.2 h⟩
theorem tot_guard {β : Type} {b : Bool} {x : Option β} {P : β → Prop} : tot (if b = true then x else none) P ↔ b = true ∧ tot x P := by
  by_cases h : b = true
  · rw [if_pos h]; exact ⟨fun t => ⟨h, t⟩, fun t => t.2⟩
  · rw [if_neg h]; exact ⟨fun ⟨_, t, _⟩ => (by cases t), fun t => absurd t.1 h⟩
theorem tot_mono {β : Type} {x : Option β} {P Q : β → Prop} (h : tot x P) (hPQ : ∀ r, P r → Q r) : tot x Q := by
  obtain ⟨r, h1, h2⟩ := h
  exact ⟨r, h1, hPQ r h2⟩
theorem tot_of {β : Type} {x : Option β} {r : β} {P : β → Prop} (h : x = some r) (hp : P r) : tot x P := ⟨r, h, hp⟩
theorem tot_to {α β : Type} {x : Option α} {r : α} {f : α → Option β} {P : β → Prop} (h : x = some r) (hp : tot (f r) P) : tot (x.bind f) P := tot_bind.mpr ⟨r, h, hp⟩
theorem inb_nI {c N : Nat} (h : c < N) (hN : N < 2 ^ 31) : inb (nI c) N = true := decide_eq_true (nI_in h hN)
theorem inb_of {x : Int32} {N : Nat} (h0 : 0 ≤ x.toInt) (h1 : x.toInt < N) : inb x N = true := by
  apply decide_eq_true
  exact vp_in_iff.mpr ⟨h0, h1⟩
/-- a number that is no CELL, or one by its Nat -/
theorem i_cases (x : Int32) {n : Nat} (hn : n < 2 ^ 31) : x < 0 ∨ nI n ≤ x ∨ ∃ j : Nat, j < n ∧ x = nI j := pk_ix x hn
/-! refusals -/
theorem ref_8 (n : Nat) (I : MI) (J : MJ) : fX9_refuse n (-8 : Int32) I J = some ((-8 : Int32), upM I 43 6 (I 43 6 + 1), J) := by rfl
theorem ref_7 (n : Nat) (I : MI) (J : MJ) : fX9_refuse n (-7 : Int32) I J = some ((-7 : Int32), upM I 43 5 (I 43 5 + 1), J) := by rfl
theorem ref_6 (n : Nat) (I : MI) (J : MJ) : fX9_refuse n (-6 : Int32) I J = some ((-6 : Int32), upM I 43 4 (I 43 4 + 1), J) := by rfl
theorem ref_5 (n : Nat) (I : MI) (J : MJ) : fX9_refuse n (-5 : Int32) I J = some ((-5 : Int32), upM I 43 3 (I 43 3 + 1), J) := by rfl
theorem ref_4 (n : Nat) (I : MI) (J : MJ) : fX9_refuse n (-4 : Int32) I J = some ((-4 : Int32), upM I 43 2 (I 43 2 + 1), J) := by rfl
theorem ref_3 (n : Nat) (I : MI) (J : MJ) : fX9_refuse n (-3 : Int32) I J = some ((-3 : Int32), upM I 43 1 (I 43 1 + 1), J) := by rfl
theorem ref_2 (n : Nat) (I : MI) (J : MJ) : fX9_refuse n (-2 : Int32) I J = some ((-2 : Int32), upM I 43 0 (I 43 0 + 1), J) := by rfl
theorem no_8 (n : Nat) (I : MI) (J : MJ) : fX10_no n (-8 : Int32) I J = some ((-8 : Int32), upM I 51 8 (I 51 8 + 1), J) := by rfl
theorem no_7 (n : Nat) (I : MI) (J : MJ) : fX10_no n (-7 : Int32) I J = some ((-7 : Int32), upM I 51 7 (I 51 7 + 1), J) := by rfl
theorem no_6 (n : Nat) (I : MI) (J : MJ) : fX10_no n (-6 : Int32) I J = some ((-6 : Int32), upM I 51 6 (I 51 6 + 1), J) := by rfl
theorem no_5 (n : Nat) (I : MI) (J : MJ) : fX10_no n (-5 : Int32) I J = some ((-5 : Int32), upM I 51 5 (I 51 5 + 1), J) := by rfl
theorem no_4 (n : Nat) (I : MI) (J : MJ) : fX10_no n (-4 : Int32) I J = some ((-4 : Int32), upM I 51 4 (I 51 4 + 1), J) := by rfl
theorem no_3 (n : Nat) (I : MI) (J : MJ) : fX10_no n (-3 : Int32) I J = some ((-3 : Int32), upM I 51 3 (I 51 3 + 1), J) := by rfl
theorem no_2 (n : Nat) (I : MI) (J : MJ) : fX10_no n (-2 : Int32) I J = some ((-2 : Int32), upM I 51 2 (I 51 2 + 1), J) := by rfl
theorem isIn_eq (n : Nat) (x a b : Int64) (I : MI) (J : MJ) : fX10_isIn n x a b I J = some (if a ≤ x ∧ x ≤ b then (1 : Int32) else 0, I, J) := by
  unfold fX10_isIn
  by_cases h1 : a ≤ x
  · have h2 : ¬ lg_cmp x a < 0 := by rw [Int32.not_lt]; exact (lg_cmp_ge x a).mpr h1
    rw [if_neg h2]
    by_cases h3 : x ≤ b
    · have h4 : ¬ 0 < lg_cmp x b := by
        unfold lg_cmp
        rw [if_neg (by rw [gt_iff_lt, Int64.not_lt]; exact h3)]
        split <;> decide
      rw [if_neg h4, if_pos ⟨h1, h3⟩]
    · have h4 : 0 < lg_cmp x b := by
        unfold lg_cmp
        rw [if_pos (by rw [gt_iff_lt]; exact Int64.not_le.mp h3)]
        decide
      rw [if_pos h4, if_neg (fun h => h3 h.2)]
  · have h2 : lg_cmp x a < 0 := by rw [← Int32.not_le]; exact fun h => h1 ((lg_cmp_ge x a).mp h)
    rw [if_pos h2, if_neg (fun h => h1 h.1)]
theorem within_eq (n : Nat) (x a b : Int32) (I : MI) (J : MJ) : fX9_within n x a b I J = some (if a ≤ x ∧ x ≤ b then (1 : Int32) else 0, I, J) := by
  unfold fX9_within
  by_cases h1 : x < a
  · rw [if_pos h1, if_neg (fun h => Int32.not_le.mpr h1 h.1)]
  · rw [if_neg h1]
    by_cases h2 : b < x
    · rw [if_pos h2, if_neg (fun h => Int32.not_le.mpr h2 h.2)]
    · rw [if_neg h2, if_pos ⟨Int32.not_lt.mp h1, Int32.not_lt.mp h2⟩]
