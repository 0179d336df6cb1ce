/-! tables, where they were found -/
def ct_cnt (P : Nat → Bool) : Nat → Nat
  | 0 => 0
  | k + 1 => if P k = true then ct_cnt P k + 1 else ct_cnt P k
def tw0 (c no : Nat) (s x u : Nat → Int32) (i : Nat) : Prop := i < c ∧ s i = 2 ∧ ((∃ k, k < no ∧ u k = nI i) ∨ ∃ j, j < c ∧ s j = 1 ∧ x j = nI i)
/-- which gates are wanted, behind k gates from the last one down -/
def tw (c no : Nat) (K : Nat → Cuts) (s x u : Nat → Int32) : Nat → Nat → Prop
  | 0, i => tw0 c no s x u i
  | k + 1, i => tw c no K s x u k i ∨ (tw c no K s x u k (c - 1 - k) ∧ ((K (c - 1 - k)).2 0).testBit i = true ∧ s i = 2)
def tabOk (K : Nat → Cuts) (I : MI) (g : Nat) : Prop := I 12 g = nI (ct_pop 32 ((K g).2 0)) ∧ I 57 g = nI (ct_pop 32 ((K g).2 0)) ∧ (∀ i, i < g → ((K g).2 0).testBit i = true → I 14 (4 * g + ct_pop i ((K g).2 0)) = nI i ∧ I 56 (4 * g + ct_pop i ((K g).2 0)) = nI i) ∧ ∃ b, b < 65536 ∧ I 13 g = nI b ∧ I 58 g = nI b
def PT (c : Nat) (I : MI) : Prop := I 44 11 = 1 → ∃ (no : Nat) (K : Nat → Cuts) (D : Nat → Nat) (W : Nat → Bool), no ≤ 8 ∧ I 1 8 = nI no ∧ (∀ g, g < c → kOk K D I g) ∧ (∀ i, W i = true ↔ tw c no K (I 2) (I 3) (I 6) c i) ∧ (∀ g, g < 32 → bt (I 11 6) g = W g) ∧ (∀ g, g < c → I 55 g = if W g = true then 1 else 0) ∧ I 11 1 = nI (ct_cnt W c) ∧ ∀ g, g < c → W g = true → tabOk K I g
theorem PT_fr {c : Nat} {I I' : MI} (h : ∀ a ∈ [1, 2, 3, 4, 6, 12, 13, 14, 55, 56, 57, 58], I' a = I a) (h1 : I' 11 1 = I 11 1) (h6 : I' 11 6 = I 11 6) (h4 : I' 44 11 = I 44 11) (hp : PT c I) : PT c I' := by
  unfold PT tabOk kOk
  rw [h4, h1, h6, h 1 (by decide), h 2 (by decide), h 3 (by decide), h 4 (by decide), h 6 (by decide), h 12 (by decide), h 13 (by decide), h 14 (by decide), h 55 (by decide), h 56 (by decide), h 57 (by decide), h 58 (by decide)]
  exact hp
theorem PT_0 {c : Nat} {I : MI} (h : I 44 11 = 0) : PT c I := fun q => absurd (h.symm.trans q) (by decide)
/-! places and frames, the rest -/
theorem ct_cnt_congr {P Q : Nat → Bool} : ∀ k, (∀ i, i < k → P i = Q i) → ct_cnt P k = ct_cnt Q k := by
  intro k
  induction k with
  | zero => intro _; rfl
  | succ k ih =>
    intro h
    show (if P k = true then ct_cnt P k + 1 else ct_cnt P k) = (if Q k = true then ct_cnt Q k + 1 else ct_cnt Q k)
    rw [ih (fun i hi => h i (by omega)), h k (by omega)]
def tn (I : MI) (k : Nat) : Nat := ct_cnt (fun i => decide (thg I i)) k
def ld (I : MI) (c t : Nat) : Nat := ct_cnt (fun i => decide (thg I i ∧ I 61 i = nI t)) c
def feeds (I : MI) (u f : Nat) : Prop := (I 45 u = 1 ∧ I 46 u = nI f) ∨ (I 45 u = 2 ∧ ¬ I 55 u = 0 ∧ ∃ j, j < 4 ∧ nI j < I 57 u ∧ I 56 (4 * u + j) = nI f)
def PS (c : Nat) (I : MI) : Prop := I 44 12 = 1 → I 22 1 = nI (tn I c) ∧ (∀ i, i < c → thg I i → I 23 (tn I i) = nI i) ∧ (∀ i, i < c → thg I i → ∃ t, t < 36 ∧ I 61 i = nI t ∧ nI t < I 16 1) ∧ (∀ t, t < 36 → I 25 t = nI (ld I c t) ∧ ld I c t ≤ 4) ∧ (∀ u, u < c → ∀ f, f < 32 → (bt (I 26 u) f = true ↔ feeds I u f)) ∧ (∀ f, f < 32 → ∀ u, u < 32 → (bt (I 27 f) u = true ↔ u < c ∧ feeds I u f))
def PB (c : Nat) (I : MI) : Prop := I 44 14 = 1 → ∀ i, i < c → thg I i → ∃ t st fs o, t < 36 ∧ (fs ≤ 37 ∧ st + fs ≤ 324) ∧ I 61 i = nI t ∧ I 36 t = nI st ∧ I 69 t = nI fs ∧ I 37 i = nI (st + o + 3) ∧ I 70 i = nI (40 * t + o) ∧ (I 45 i = 1 → o + 5 ≤ fs) ∧ (I 45 i = 2 → ∃ k, k ≤ 4 ∧ I 57 i = nI k ∧ o + 6 + k ≤ fs)
theorem PS_fr {c : Nat} {I I' : MI} (h : ∀ a ∈ [23, 25, 26, 27, 45, 46, 55, 56, 57, 61], I' a = I a) (h16 : I' 16 1 = I 16 1) (h22 : I' 22 1 = I 22 1) (h4 : I' 44 12 = I 44 12) (hp : PS c I) : PS c I' := by
  unfold PS tn ld feeds thg
  rw [h4, h16, h22, h 23 (by decide), h 25 (by decide), h 26 (by decide), h 27 (by decide), h 45 (by decide), h 46 (by decide), h 55 (by decide), h 56 (by decide), h 57 (by decide), h 61 (by decide)]
  exact hp
theorem PS_0 {c : Nat} {I : MI} (h : I 44 12 = 0) : PS c I := fun q => absurd (h.symm.trans q) (by decide)
theorem PB_fr {c : Nat} {I I' : MI} (h : ∀ a ∈ [36, 37, 45, 55, 57, 61, 69, 70], I' a = I a) (h4 : I' 44 14 = I 44 14) (hp : PB c I) : PB c I' := by
  unfold PB thg
  rw [h4, h 36 (by decide), h 37 (by decide), h 45 (by decide), h 55 (by decide), h 57 (by decide), h 61 (by decide), h 69 (by decide), h 70 (by decide)]
  exact hp
theorem PB_0 {c : Nat} {I : MI} (h : I 44 14 = 0) : PB c I := fun q => absurd (h.symm.trans q) (by decide)
/-- tables that are found anew and are the same -/
theorem PS_tab {c : Nat} {I I' : MI} (h : ∀ a ∈ [16, 22, 23, 25, 26, 27, 45, 46, 61], I' a = I a) (h4 : I' 44 12 = I 44 12) (h55 : I 44 12 = 1 → ∀ i, i < c → I' 55 i = I 55 i) (hl : I 44 12 = 1 → ∀ u, u < c → I 45 u = 2 → ¬ I 55 u = 0 → I' 57 u = I 57 u ∧ ∀ j, j < 4 → nI j < I 57 u → I' 56 (4 * u + j) = I 56 (4 * u + j)) (hp : PS c I) : PS c I' := by
  intro h12
  rw [h4] at h12
  have h55 := h55 h12
  have hl := hl h12
  obtain ⟨p1, p2, p3, p4, p5, p6⟩ := hp h12
  have e45 := h 45 (by decide)
  have e61 := h 61 (by decide)
  have et : ∀ i, i < c → (thg I' i ↔ thg I i) := by
    intro i hi
    unfold thg
    rw [e45, h55 i hi]
  have etn : ∀ k, k ≤ c → tn I' k = tn I k := fun k hk => ct_cnt_congr k (fun i hi => decide_eq_decide.mpr (et i (by omega)))
  have eld : ∀ t, ld I' c t = ld I c t := fun t => ct_cnt_congr c (fun i hi => decide_eq_decide.mpr (by rw [et i hi, e61]))
  have ef : ∀ u f, u < c → (feeds I' u f ↔ feeds I u f) := by
    intro u f hu
    unfold feeds
    rw [e45, h 46 (by decide), h55 u hu]
    constructor
    · rintro (q | ⟨q1, q2, j, q3, q4, q5⟩)
      · exact Or.inl q
      · obtain ⟨z1, z2⟩ := hl u hu q1 q2
        rw [z1] at q4
        exact Or.inr ⟨q1, q2, j, q3, q4, by rw [← z2 j q3 q4]; exact q5⟩
    · rintro (q | ⟨q1, q2, j, q3, q4, q5⟩)
      · exact Or.inl q
      · obtain ⟨z1, z2⟩ := hl u hu q1 q2
        exact Or.inr ⟨q1, q2, j, q3, by rw [z1]; exact q4, by rw [z2 j q3 q4]; exact q5⟩
  refine ⟨?_, fun i hi ht => ?_, fun i hi ht => ?_, fun t ht => ?_, fun u hu f hf => ?_, fun f hf u hu => ?_⟩
  · rw [h 22 (by decide), etn c (Nat.le_refl _)]; exact p1
  · rw [h 23 (by decide), etn i (by omega)]; exact p2 i hi ((et i hi).mp ht)
  · rw [e61, h 16 (by decide)]; exact p3 i hi ((et i hi).mp ht)
  · rw [h 25 (by decide), eld t]; exact p4 t ht
  · rw [h 26 (by decide), ef u f hu]; exact p5 u hu f hf
  · rw [h 27 (by decide), p6 f hf u hu]
    exact ⟨fun z => ⟨z.1, (ef u f z.1).mpr z.2⟩, fun z => ⟨z.1, (ef u f z.1).mp z.2⟩⟩
theorem PB_tab {c : Nat} {I I' : MI} (h : ∀ a ∈ [36, 37, 45, 61, 69, 70], I' a = I a) (h4 : I' 44 14 = I 44 14) (h55 : I 44 14 = 1 → ∀ i, i < c → I' 55 i = I 55 i) (hl : I 44 14 = 1 → ∀ u, u < c → I 45 u = 2 → ¬ I 55 u = 0 → I' 57 u = I 57 u) (hp : PB c I) : PB c I' := by
  intro h14 i hi ht
  rw [h4] at h14
  have e45 := h 45 (by decide)
  have et : thg I i := by
    unfold thg at ht ⊢
    rw [e45, h55 h14 i hi] at ht
    exact ht
  obtain ⟨t, st, fs, o, q1, q0, q2, q3, q4, q5, q6, q7, q8⟩ := hp h14 i hi et
  refine ⟨t, st, fs, o, q1, q0, ?_, ?_, ?_, ?_, ?_, ?_, fun hs => ?_⟩
  · rw [h 61 (by decide)]; exact q2
  · rw [h 36 (by decide)]; exact q3
  · rw [h 69 (by decide)]; exact q4
  · rw [h 37 (by decide)]; exact q5
  · rw [h 70 (by decide)]; exact q6
  · rw [e45]; exact q7
  · rw [e45] at hs
    rw [hl h14 i hi hs (et.resolve_left (fun z => z hs))]
    exact q8 hs
/-- how many inputs and keepers there are -/
def PC (c : Nat) (I : MI) : Prop := I 1 6 = nI (ct_cnt (fun i => decide (I 2 i = 0)) c) ∧ I 1 7 = nI (ct_cnt (fun i => decide (I 2 i = 1)) c)
theorem PC_cg {c : Nat} {I I' : MI} (h6 : I' 1 6 = I 1 6) (h7 : I' 1 7 = I 1 7) (h2 : ∀ i, i < c → I' 2 i = I 2 i) (hp : PC c I) : PC c I' := by
  refine ⟨?_, ?_⟩
  · rw [h6, ct_cnt_congr (Q := fun i => decide (I 2 i = 0)) c (fun i hi => by rw [h2 i hi])]; exact hp.1
  · rw [h7, ct_cnt_congr (Q := fun i => decide (I 2 i = 1)) c (fun i hi => by rw [h2 i hi])]; exact hp.2
theorem PC_fr {c : Nat} {I I' : MI} (h1 : I' 1 = I 1) (h2 : I' 2 = I 2) (hp : PC c I) : PC c I' := PC_cg (by rw [h1]) (by rw [h1]) (fun i _ => by rw [h2]) hp
theorem PC_add {c : Nat} {I I' : MI} (h6 : I' 1 6 = if I' 2 c = 0 then I 1 6 + 1 else I 1 6) (h7 : I' 1 7 = if I' 2 c = 1 then I 1 7 + 1 else I 1 7) (h2 : ∀ i, i < c → I' 2 i = I 2 i) (hp : PC c I) : PC (c + 1) I' := by
  have e : ∀ v : Int32, ct_cnt (fun i => decide (I' 2 i = v)) (c + 1) = if I' 2 c = v then ct_cnt (fun i => decide (I 2 i = v)) c + 1 else ct_cnt (fun i => decide (I 2 i = v)) c := by
    intro v
    show (if decide (I' 2 c = v) = true then ct_cnt (fun i => decide (I' 2 i = v)) c + 1 else ct_cnt (fun i => decide (I' 2 i = v)) c) = _
    rw [ct_cnt_congr (P := fun i => decide (I' 2 i = v)) (Q := fun i => decide (I 2 i = v)) c (fun i hi => by rw [h2 i hi])]
    by_cases q : I' 2 c = v
    · rw [if_pos (decide_eq_true q), if_pos q]
    · rw [if_neg (fun z => q (of_decide_eq_true z)), if_neg q]
  refine ⟨?_, ?_⟩
  · rw [h6, e 0, hp.1]
    by_cases q : I' 2 c = 0
    · rw [if_pos q, if_pos q, nI_1]
    · rw [if_neg q, if_neg q]
  · rw [h7, e 1, hp.2]
    by_cases q : I' 2 c = 1
    · rw [if_pos q, if_pos q, nI_1]
    · rw [if_neg q, if_neg q]
/-! ways: each END is reached over the wire's own joints -/
def rch (lo hi : Nat → Int32) (A : Nat → Prop) (r : Int32) : Nat → Int32 → Prop
  | 0, t => t = r
  | k + 1, t => rch lo hi A r k t ∨ ∃ j, A j ∧ ((lo j = t ∧ rch lo hi A r k (hi j)) ∨ (hi j = t ∧ rch lo hi A r k (lo j)))
def PL (c : Nat) (I : MI) : Prop := I 44 13 = 1 → ∀ i, i < c → thg I i → ∀ u, u < c → feeds I u i → ∃ k, rch (I 19) (I 20) (fun j => j < 60 ∧ nI j < I 16 2 ∧ I 62 (60 * i + j) = 1) (I 61 i) k (I 61 u)
theorem PL_fr {c : Nat} {I I' : MI} (h : ∀ a ∈ [19, 20, 45, 46, 55, 56, 57, 61, 62], I' a = I a) (h16 : I' 16 2 = I 16 2) (h4 : I' 44 13 = I 44 13) (hp : PL c I) : PL c I' := by
  unfold PL feeds thg
  rw [h4, h16, h 19 (by decide), h 20 (by decide), h 45 (by decide), h 46 (by decide), h 55 (by decide), h 56 (by decide), h 57 (by decide), h 61 (by decide), h 62 (by decide)]
  exact hp
theorem PL_0 {c : Nat} {I : MI} (h : I 44 13 = 0) : PL c I := fun q => absurd (h.symm.trans q) (by decide)
theorem PL_tab {c : Nat} {I I' : MI} (h : ∀ a ∈ [16, 19, 20, 45, 46, 61, 62], I' a = I a) (h4 : I' 44 13 = I 44 13) (h55 : I 44 13 = 1 → ∀ i, i < c → I' 55 i = I 55 i) (hl : I 44 13 = 1 → ∀ u, u < c → I 45 u = 2 → ¬ I 55 u = 0 → I' 57 u = I 57 u ∧ ∀ j, j < 4 → nI j < I 57 u → I' 56 (4 * u + j) = I 56 (4 * u + j)) (hp : PL c I) : PL c I' := by
  intro h13 i hi ht u hu hf
  rw [h4] at h13
  have h55 := h55 h13
  have hl := hl h13
  have e45 := h 45 (by decide)
  have ht' : thg I i := by
    unfold thg at ht ⊢
    rw [e45, h55 i hi] at ht
    exact ht
  have hf' : feeds I u i := by
    unfold feeds at hf ⊢
    rw [e45, h 46 (by decide), h55 u hu] at hf
    rcases hf with q | ⟨q1, q2, j, q3, q4, q5⟩
    · exact Or.inl q
    · obtain ⟨z1, z2⟩ := hl u hu q1 q2
      rw [z1] at q4
      exact Or.inr ⟨q1, q2, j, q3, q4, by rw [← z2 j q3 q4]; exact q5⟩
  rw [h 16 (by decide), h 19 (by decide), h 20 (by decide), h 61 (by decide), h 62 (by decide)]
  exact hp h13 i hi ht' u hu hf'
def PBL (c : Nat) (I : MI) : Prop := PB c I ∧ PL c I
/-! the further parts together -/
def PE (c : Nat) (I : MI) (J : MJ) : Prop := PK c I J ∧ PT c I ∧ PS c I ∧ PBL c I ∧ PC c I
theorem PE_fr {c : Nat} {I I' : MI} {J : MJ} (h : ∀ a, (a < 38 ∨ (44 < a ∧ a ≠ 51 ∧ a < 71)) → I' a = I a) (h4 : ∀ j, j < 42 → I' 44 j = I 44 j) (hp : PE c I J) : PE c I' J := by
  have e : ∀ (l : List Nat), (∀ a ∈ l, (a < 38 ∨ (44 < a ∧ a ≠ 51 ∧ a < 71))) → ∀ a ∈ l, I' a = I a := fun l hl a ha => h a (hl a ha)
  exact ⟨PK_fr (e _ (by decide)) (h4 15 (by decide)) rfl hp.1, PT_fr (e _ (by decide)) (by rw [h 11 (by decide)]) (by rw [h 11 (by decide)]) (h4 11 (by decide)) hp.2.1, PS_fr (e _ (by decide)) (by rw [h 16 (by decide)]) (by rw [h 22 (by decide)]) (h4 12 (by decide)) hp.2.2.1, ⟨PB_fr (e _ (by decide)) (h4 14 (by decide)) hp.2.2.2.1.1, PL_fr (e _ (by decide)) (by rw [h 16 (by decide)]) (h4 13 (by decide)) hp.2.2.2.1.2⟩, PC_fr (h 1 (by decide)) (h 2 (by decide)) hp.2.2.2.2⟩
theorem PE_chg {c : Nat} {I : MI} {J : MJ} (hk : PK c I J) (hcn : PC c I) (z : I 44 11 = 0 ∧ I 44 12 = 0 ∧ I 44 13 = 0 ∧ I 44 14 = 0) : PE c I J := ⟨hk, PT_0 z.1, PS_0 z.2.1, ⟨PB_0 z.2.2.2, PL_0 z.2.2.1⟩, hcn⟩
theorem PE_unset {c : Nat} {I I' : MI} {J J' : MJ} (h : ∀ a, (a < 16 ∨ 21 < a) → a ≠ 60 → a ≠ 22 → a ≠ 28 → a ≠ 34 → a ≠ 44 → I' a = I a) (h44 : ∀ j, j ≠ 12 → j ≠ 13 → j ≠ 14 → (j < 24 ∨ 27 < j) → I' 44 j = I 44 j) (z : I' 44 12 = 0 ∧ I' 44 13 = 0 ∧ I' 44 14 = 0) (hJ : J' 10 = J 10) (hp : PE c I J) : PE c I' J' := by
  have e : ∀ (l : List Nat), (∀ a ∈ l, (a < 16 ∨ 21 < a) ∧ a ≠ 60 ∧ a ≠ 22 ∧ a ≠ 28 ∧ a ≠ 34 ∧ a ≠ 44) → ∀ a ∈ l, I' a = I a := fun l hl a ha => h a (hl a ha).1 (hl a ha).2.1 (hl a ha).2.2.1 (hl a ha).2.2.2.1 (hl a ha).2.2.2.2.1 (hl a ha).2.2.2.2.2
  have h11 := e [11] (by decide) 11 (by decide)
  exact ⟨PK_fr (e _ (by decide)) (h44 15 (by decide) (by decide) (by decide) (by decide)) hJ hp.1, PT_fr (e _ (by decide)) (by rw [h11]) (by rw [h11]) (h44 11 (by decide) (by decide) (by decide) (by decide)) hp.2.1, PS_0 z.1, ⟨PB_0 z.2.2, PL_0 z.2.1⟩, PC_fr (e [1] (by decide) 1 (by decide)) (e [2] (by decide) 2 (by decide)) hp.2.2.2.2⟩
theorem PE_byte {c : Nat} {I I' : MI} {J : MJ} (h : ∀ a, a ≠ 35 → a ≠ 68 → I' a = I a) (hp : PE c I J) : PE c I' J := by
  have e : ∀ (l : List Nat), (∀ a ∈ l, a ≠ 35 ∧ a ≠ 68) → ∀ a ∈ l, I' a = I a := fun l hl a ha => h a (hl a ha).1 (hl a ha).2
  have h11 := e [11] (by decide) 11 (by decide)
  have h44 := e [44] (by decide) 44 (by decide)
  exact ⟨PK_fr (e _ (by decide)) (by rw [h44]) rfl hp.1, PT_fr (e _ (by decide)) (by rw [h11]) (by rw [h11]) (by rw [h44]) hp.2.1, PS_fr (e _ (by decide)) (by rw [h 16 (by decide) (by decide)]) (by rw [h 22 (by decide) (by decide)]) (by rw [h44]) hp.2.2.1, ⟨PB_fr (e _ (by decide)) (by rw [h44]) hp.2.2.2.1.1, PL_fr (e _ (by decide)) (by rw [h 16 (by decide) (by decide)]) (by rw [h44]) hp.2.2.2.1.2⟩, PC_fr (h 1 (by decide) (by decide)) (h 2 (by decide) (by decide)) hp.2.2.2.2⟩
theorem PE_0 {I : MI} {J : MJ} (z : I 44 11 = 0 ∧ I 44 12 = 0 ∧ I 44 13 = 0 ∧ I 44 14 = 0 ∧ I 44 15 = 0) (z1 : I 1 6 = 0 ∧ I 1 7 = 0) : PE 0 I J := PE_chg ⟨Or.inl z.2.2.2.2, fun _ => (0, fun _ => 0), fun _ => 0, fun g hg => absurd hg (Nat.not_lt_zero _), fun g hg => absurd hg (Nat.not_lt_zero _), fun _ g hg => absurd hg (Nat.not_lt_zero _)⟩ ⟨z1.1, z1.2⟩ ⟨z.1, z.2.1, z.2.2.1, z.2.2.2.1⟩
theorem PE_cut {c : Nat} {I I' : MI} {J : MJ} (h : ∀ a, a ≠ 52 → a ≠ 53 → a ≠ 54 → a ≠ 44 → I' a = I a) (h44 : ∀ j, j ≠ 15 → I' 44 j = I 44 j) (hk : PK c I' J) (hp : PE c I J) : PE c I' J := by
  have e : ∀ (l : List Nat), (∀ a ∈ l, a ≠ 52 ∧ a ≠ 53 ∧ a ≠ 54 ∧ a ≠ 44) → ∀ a ∈ l, I' a = I a := fun l hl a ha => h a (hl a ha).1 (hl a ha).2.1 (hl a ha).2.2.1 (hl a ha).2.2.2
  have h11 := e [11] (by decide) 11 (by decide)
  exact ⟨hk, PT_fr (e _ (by decide)) (by rw [h11]) (by rw [h11]) (h44 11 (by decide)) hp.2.1, PS_fr (e _ (by decide)) (by rw [e [16] (by decide) 16 (by decide)]) (by rw [e [22] (by decide) 22 (by decide)]) (h44 12 (by decide)) hp.2.2.1, ⟨PB_fr (e _ (by decide)) (h44 14 (by decide)) hp.2.2.2.1.1, PL_fr (e _ (by decide)) (by rw [e [16] (by decide) 16 (by decide)]) (h44 13 (by decide)) hp.2.2.2.1.2⟩, PC_fr (e [1] (by decide) 1 (by decide)) (e [2] (by decide) 2 (by decide)) hp.2.2.2.2⟩
