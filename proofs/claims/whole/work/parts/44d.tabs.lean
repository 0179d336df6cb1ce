/-! tables, where they were found -/
def ct_cnt (P : Nat → Bool) : Nat → Nat
  | 0 => 0
  | k + 1 => if P k = true then ct_cnt P k + 1 else ct_cnt P k
def tw0 (c no : Nat) (s x u : Nat → Int32) (i : Nat) : Prop := i < c ∧ s i = 2 ∧ ((∃ k, k < no ∧ u k = nI i) ∨ ∃ j, j < c ∧ s j = 1 ∧ x j = nI i)
/-- which gates are wanted, behind k gates from the last one down -/
def tw (c no : Nat) (K : Nat → Cuts) (s x u : Nat → Int32) : Nat → Nat → Prop
  | 0, i => tw0 c no s x u i
  | k + 1, i => tw c no K s x u k i ∨ (tw c no K s x u k (c - 1 - k) ∧ ((K (c - 1 - k)).2 0).testBit i = true ∧ s i = 2)
def tabOk (K : Nat → Cuts) (I : MI) (g : Nat) : Prop := I 12 g = nI (ct_pop 32 ((K g).2 0)) ∧ I 57 g = nI (ct_pop 32 ((K g).2 0)) ∧ (∀ i, i < g → ((K g).2 0).testBit i = true → I 14 (4 * g + ct_pop i ((K g).2 0)) = nI i ∧ I 56 (4 * g + ct_pop i ((K g).2 0)) = nI i) ∧ ∃ b, b < 65536 ∧ I 13 g = nI b ∧ I 58 g = nI b
def PT (c : Nat) (I : MI) : Prop := I 44 11 = 1 → ∃ (no : Nat) (K : Nat → Cuts) (D : Nat → Nat) (W : Nat → Bool), no ≤ 8 ∧ I 1 8 = nI no ∧ (∀ g, g < c → kOk K D I g) ∧ (∀ i, W i = true ↔ tw c no K (I 2) (I 3) (I 6) c i) ∧ (∀ g, g < 32 → bt (I 11 6) g = W g) ∧ (∀ g, g < c → I 55 g = if W g = true then 1 else 0) ∧ I 11 1 = nI (ct_cnt W c) ∧ ∀ g, g < c → W g = true → tabOk K I g
theorem PT_fr {c : Nat} {I I' : MI} (h : ∀ a ∈ [1, 2, 3, 4, 6, 12, 13, 14, 55, 56, 57, 58], I' a = I a) (h1 : I' 11 1 = I 11 1) (h6 : I' 11 6 = I 11 6) (h4 : I' 44 11 = I 44 11) (hp : PT c I) : PT c I' := by
  unfold PT tabOk kOk
  rw [h4, h1, h6, h 1 (by decide), h 2 (by decide), h 3 (by decide), h 4 (by decide), h 6 (by decide), h 12 (by decide), h 13 (by decide), h 14 (by decide), h 55 (by decide), h 56 (by decide), h 57 (by decide), h 58 (by decide)]
  exact hp
theorem PT_0 {c : Nat} {I : MI} (h : I 44 11 = 0) : PT c I := fun q => absurd (h.symm.trans q) (by decide)
/-! the further parts together -/
def PE (c : Nat) (I : MI) (J : MJ) : Prop := PK c I J ∧ PT c I
theorem PE_fr {c : Nat} {I I' : MI} {J : MJ} (h : ∀ a, (a < 38 ∨ (44 < a ∧ a ≠ 51 ∧ a < 71)) → I' a = I a) (h4 : ∀ j, j < 42 → I' 44 j = I 44 j) (hp : PE c I J) : PE c I' J := by
  have e : ∀ (l : List Nat), (∀ a ∈ l, (a < 38 ∨ (44 < a ∧ a ≠ 51 ∧ a < 71))) → ∀ a ∈ l, I' a = I a := fun l hl a ha => h a (hl a ha)
  exact ⟨PK_fr (e _ (by decide)) (h4 15 (by decide)) rfl hp.1, PT_fr (e _ (by decide)) (by rw [h 11 (by decide)]) (by rw [h 11 (by decide)]) (h4 11 (by decide)) hp.2⟩
theorem PE_chg {c : Nat} {I : MI} {J : MJ} (hk : PK c I J) (z : I 44 11 = 0 ∧ I 44 12 = 0 ∧ I 44 13 = 0 ∧ I 44 14 = 0) : PE c I J := ⟨hk, PT_0 z.1⟩
theorem PE_unset {c : Nat} {I I' : MI} {J J' : MJ} (h : ∀ a, (a < 16 ∨ 21 < a) → a ≠ 60 → a ≠ 22 → a ≠ 28 → a ≠ 34 → a ≠ 44 → I' a = I a) (h44 : ∀ j, j ≠ 12 → j ≠ 13 → j ≠ 14 → (j < 24 ∨ 27 < j) → I' 44 j = I 44 j) (z : I' 44 12 = 0 ∧ I' 44 13 = 0 ∧ I' 44 14 = 0) (hJ : J' 10 = J 10) (hp : PE c I J) : PE c I' J' := by
  have e : ∀ (l : List Nat), (∀ a ∈ l, (a < 16 ∨ 21 < a) ∧ a ≠ 60 ∧ a ≠ 22 ∧ a ≠ 28 ∧ a ≠ 34 ∧ a ≠ 44) → ∀ a ∈ l, I' a = I a := fun l hl a ha => h a (hl a ha).1 (hl a ha).2.1 (hl a ha).2.2.1 (hl a ha).2.2.2.1 (hl a ha).2.2.2.2.1 (hl a ha).2.2.2.2.2
  have h11 := e [11] (by decide) 11 (by decide)
  exact ⟨PK_fr (e _ (by decide)) (h44 15 (by decide) (by decide) (by decide) (by decide)) hJ hp.1, PT_fr (e _ (by decide)) (by rw [h11]) (by rw [h11]) (h44 11 (by decide) (by decide) (by decide) (by decide)) hp.2⟩
theorem PE_byte {c : Nat} {I I' : MI} {J : MJ} (h : ∀ a, a ≠ 35 → a ≠ 68 → I' a = I a) (hp : PE c I J) : PE c I' J := by
  have e : ∀ (l : List Nat), (∀ a ∈ l, a ≠ 35 ∧ a ≠ 68) → ∀ a ∈ l, I' a = I a := fun l hl a ha => h a (hl a ha).1 (hl a ha).2
  have h11 := e [11] (by decide) 11 (by decide)
  have h44 := e [44] (by decide) 44 (by decide)
  exact ⟨PK_fr (e _ (by decide)) (by rw [h44]) rfl hp.1, PT_fr (e _ (by decide)) (by rw [h11]) (by rw [h11]) (by rw [h44]) hp.2⟩
theorem PE_0 {I : MI} {J : MJ} (z : I 44 11 = 0 ∧ I 44 12 = 0 ∧ I 44 13 = 0 ∧ I 44 14 = 0 ∧ I 44 15 = 0) : PE 0 I J := PE_chg ⟨Or.inl z.2.2.2.2, fun _ => (0, fun _ => 0), fun _ => 0, fun g hg => absurd hg (Nat.not_lt_zero _), fun g hg => absurd hg (Nat.not_lt_zero _), fun _ g hg => absurd hg (Nat.not_lt_zero _)⟩ ⟨z.1, z.2.1, z.2.2.1, z.2.2.2.1⟩
theorem PE_cut {c : Nat} {I I' : MI} {J : MJ} (h : ∀ a, a ≠ 52 → a ≠ 53 → a ≠ 54 → a ≠ 44 → I' a = I a) (h44 : ∀ j, j ≠ 15 → I' 44 j = I 44 j) (hk : PK c I' J) (hp : PE c I J) : PE c I' J := by
  have e : ∀ (l : List Nat), (∀ a ∈ l, a ≠ 52 ∧ a ≠ 53 ∧ a ≠ 54 ∧ a ≠ 44) → ∀ a ∈ l, I' a = I a := fun l hl a ha => h a (hl a ha).1 (hl a ha).2.1 (hl a ha).2.2.1 (hl a ha).2.2.2
  have h11 := e [11] (by decide) 11 (by decide)
  exact ⟨hk, PT_fr (e _ (by decide)) (by rw [h11]) (by rw [h11]) (h44 11 (by decide)) hp.2⟩
