/-! small words -/
theorem bind_e3 {α : Type} {x : Option (α × M2)} : (x.bind fun r => some (r.1, r.2.1, r.2.2)) = x := by cases x <;> rfl
theorem bind_e2 {x : Option M2} : (x.bind fun r => some (r.1, r.2)) = x := by cases x <;> rfl
theorem lt0 {x : Int32} : x < 0 ↔ x.toInt < 0 := by
  rw [Int32.lt_iff_toInt_lt, show (0 : Int32).toInt = 0 from by decide]
theorem le0 {x : Int32} : 0 ≤ x ↔ 0 ≤ x.toInt := by
  rw [Int32.le_iff_toInt_le, show (0 : Int32).toInt = 0 from by decide]
theorem lt_n {x : Int32} {s : Nat} (h : s < 2 ^ 31) : x < nI s ↔ x.toInt < s := by rw [Int32.lt_iff_toInt_lt, nI_toInt h]
theorem le_n {x : Int32} {s : Nat} (h : s < 2 ^ 31) : nI s ≤ x ↔ (s : Int) ≤ x.toInt := by rw [Int32.le_iff_toInt_le, nI_toInt h]
/-! the relation between the two systems, part by part -/
/-- refusals: counted alike -/
def PR (I : MI) : Prop := ∀ k, k < 7 → I 51 (k + 2) = I 43 k
/-- the row -/
def PQ (I : MI) : Prop := (I 41 0 = 0 ∧ I 44 48 = -1) ∨ (I 41 0 = 1 ∧ ∃ s, s ≤ 37 ∧ I 41 1 = nI s ∧ I 44 48 = nI s ∧ ∀ j, j < s → I 74 j = I 42 j)
/-- what stands: tables, places, ways, frames -/
def Pf (I : MI) : Prop := (I 11 0 = I 44 11 ∧ I 22 0 = I 44 12 ∧ I 28 0 = I 44 13 ∧ I 34 0 = I 44 14) ∧ ((I 44 11 = 0 ∨ I 44 11 = 1) ∧ (I 44 12 = 0 ∨ I 44 12 = 1) ∧ (I 44 13 = 0 ∨ I 44 13 = 1) ∧ (I 44 14 = 0 ∨ I 44 14 = 1)) ∧ (I 44 12 = 1 → I 44 11 = 1) ∧ (I 44 13 = 1 → I 44 12 = 1) ∧ (I 44 14 = 1 → I 44 12 = 1)
/-- a cell of the net: its sort, what it has, alike on both sides -/
def cellOk (c i : Nat) (I : MI) : Prop := I 45 i = I 2 i ∧ I 46 i = I 3 i ∧ I 47 i = I 4 i ∧
  ((I 2 i = 0 ∧ I 3 i = -1 ∧ I 4 i = -1 ∧ I 5 i = -1) ∨
   (I 2 i = 1 ∧ (∃ s, s < c ∧ I 3 i = nI s) ∧ I 4 i = -1 ∧ I 5 i = -1) ∨
   (I 2 i = 2 ∧ (∃ s, s < 2 * i ∧ I 3 i = nI s) ∧ (∃ s, s < 2 * i ∧ I 4 i = nI s) ∧ ∃ o, o < 3 ∧ I 5 i = nI o ∧ I 48 i = nI o))
def PN (c ni nk no : Nat) (I : MI) : Prop := (c ≤ 32 ∧ ni ≤ 6 ∧ nk ≤ 6 ∧ no ≤ 8) ∧ (I 1 5 = nI c ∧ I 44 6 = nI c ∧ I 1 6 = nI ni ∧ I 44 7 = nI ni ∧ I 1 7 = nI nk ∧ I 44 8 = nI nk ∧ I 1 8 = nI no ∧ I 44 9 = nI no) ∧
  (∀ i, i < c → cellOk c i I) ∧ (∀ k, k < no → I 50 k = I 6 k ∧ ∃ o, o < c ∧ I 6 k = nI o) ∧
  (∀ i, i < 32 → bt (I 1 9) i = decide (i < c ∧ I 2 i = 2)) ∧ (∀ i, i < 32 → bt (I 1 10) i = decide (i < c ∧ I 2 i = 1 ∧ I 49 i = 1)) ∧
  (∀ i, i < 32 → I 49 i = 0 ∨ I 49 i = 1) ∧ (∀ i, c ≤ i → i < 32 → I 49 i = 0)
theorem PR_fr {I I' : MI} (h : ∀ a ∈ [43, 51], I' a = I a) (hp : PR I) : PR I' := by
  intro k hk
  rw [h 51 (by decide), h 43 (by decide)]
  exact hp k hk
theorem PQ_fr {I I' : MI} (h : ∀ a ∈ [41, 42, 74], I' a = I a) (h4 : I' 44 48 = I 44 48) (hp : PQ I) : PQ I' := by
  unfold PQ
  rw [h4, h 41 (by decide), h 42 (by decide), h 74 (by decide)]
  exact hp
theorem Pf_fr {I I' : MI} (h1 : I' 11 0 = I 11 0) (h2 : I' 22 0 = I 22 0) (h3 : I' 28 0 = I 28 0) (h4 : I' 34 0 = I 34 0) (h : ∀ j ∈ [11, 12, 13, 14], I' 44 j = I 44 j) (hp : Pf I) : Pf I' := by
  unfold Pf
  rw [h1, h2, h3, h4, h 11 (by decide), h 12 (by decide), h 13 (by decide), h 14 (by decide)]
  exact hp
theorem PN_fr {c ni nk no : Nat} {I I' : MI} (h : ∀ a ∈ [1, 2, 3, 4, 5, 6, 45, 46, 47, 48, 49, 50], I' a = I a) (h4 : ∀ j ∈ [6, 7, 8, 9], I' 44 j = I 44 j) (hp : PN c ni nk no I) : PN c ni nk no I' := by
  unfold PN cellOk
  rw [h4 6 (by decide), h4 7 (by decide), h4 8 (by decide), h4 9 (by decide), h 1 (by decide), h 2 (by decide), h 3 (by decide), h 4 (by decide), h 5 (by decide), h 6 (by decide), h 45 (by decide), h 46 (by decide), h 47 (by decide), h 48 (by decide), h 49 (by decide), h 50 (by decide)]
  exact hp
/-- both refuse for one reason -/
def refI (j : Nat) (I : MI) : MI := upM (upM I 43 j (I 43 j + 1)) 51 (j + 2) (I 51 (j + 2) + 1)
theorem refI_at {j a : Nat} {I : MI} (h1 : a ≠ 43) (h2 : a ≠ 51) : refI j I a = I a := by
  unfold refI
  rw [upM_ne a h2, upM_ne a h1]
theorem PR_ref {j : Nat} {I : MI} (hj : j < 7) (hp : PR I) : PR (refI j I) := by
  intro k hk
  unfold refI
  have h := hp k hk
  have h0 := hp j hj
  simp only [upM_get]
  by_cases hkj : k = j
  · subst hkj
    simp [h]
  · have : ¬ k + 2 = j + 2 := by omega
    simp [this, hkj, h]
/-- bounds of words that both sides ask -/
theorem within_i (n : Nat) (x a b : Int32) (I : MI) (J : MJ) : fX9_within n x a b I J = some (b2 (a.toInt ≤ x.toInt ∧ x.toInt ≤ b.toInt), I, J) := by
  rw [within_eq]
  unfold b2
  simp only [Int32.le_iff_toInt_le]
theorem isIn_i (n : Nat) (x : Int32) (a b : Int64) (I : MI) (J : MJ) : fX10_isIn n x.toInt64 a b I J = some (b2 (a.toInt ≤ x.toInt ∧ x.toInt ≤ b.toInt), I, J) := by
  rw [isIn_eq]
  unfold b2
  simp only [Int64.le_iff_toInt_le, Int32.toInt_toInt64]
/-- the grid -/
def PG (I : MI) (J : MJ) : Prop := ∃ w h r k, (1 ≤ w ∧ w ≤ 6 ∧ 1 ≤ h ∧ h ≤ 6 ∧ 1 ≤ r ∧ r ≤ 4 ∧ 1 ≤ k ∧ k ≤ 4) ∧ (I 44 24 = nI w ∧ I 44 25 = nI h ∧ I 44 26 = nI r ∧ I 44 27 = nI k) ∧ grOk w h r k I ∧ (∀ t, t < 36 → I 60 t = 0 ∨ I 60 t = 1) ∧ (∀ t, w * h ≤ t → t < 36 → I 60 t = 0) ∧ ∀ t, t < 64 → bl (J 16 9) t = decide (t < 36 ∧ I 60 t = 1)
theorem PG_fr {I I' : MI} {J J' : MJ} (h : ∀ a ∈ [16, 17, 18, 19, 20, 21, 60], I' a = I a) (h4 : ∀ j ∈ [24, 25, 26, 27], I' 44 j = I 44 j) (hJ : J' 16 9 = J 16 9) (hp : PG I J) : PG I' J' := by
  unfold PG grOk colOk dnOk
  rw [hJ, h4 24 (by decide), h4 25 (by decide), h4 26 (by decide), h4 27 (by decide), h 16 (by decide), h 17 (by decide), h 18 (by decide), h 19 (by decide), h 20 (by decide), h 21 (by decide), h 60 (by decide)]
  exact hp
/-- ways, where they were led -/
def PW (I : MI) (J : MJ) : Prop := I 44 13 = 1 → (∀ j, j < 60 → I 63 j = I 29 j ∧ I 64 j = I 30 j) ∧ ∀ i, i < 32 → ∀ j, j < 60 → (I 62 (60 * i + j) = 0 ∨ I 62 (60 * i + j) = 1) ∧ bl (J 31 i) j = decide (I 62 (60 * i + j) = 1)
theorem PW_fr {I I' : MI} {J J' : MJ} (h : ∀ a ∈ [29, 30, 62, 63, 64], I' a = I a) (h4 : I' 44 13 = I 44 13) (hJ : J' 31 = J 31) (hp : PW I J) : PW I' J' := by
  unfold PW
  rw [hJ, h4, h 29 (by decide), h 30 (by decide), h 62 (by decide), h 63 (by decide), h 64 (by decide)]
  exact hp
theorem PW_0 {I : MI} {J : MJ} (h : I 44 13 = 0) : PW I J := fun q => absurd (h.symm.trans q) (by decide)
/-- places, where they were set: which cells are THINGS, and their TILES -/
abbrev thg (I : MI) (i : Nat) : Prop := ¬ I 45 i = 2 ∨ ¬ I 55 i = 0
def PP (c : Nat) (I : MI) : Prop := I 44 12 = 1 → ∀ i, i < c → (thg I i → I 24 i = I 61 i ∧ ∃ t, t < 36 ∧ I 61 i = nI t) ∧ (¬ thg I i → I 24 i = -1)
theorem PP_fr {c : Nat} {I I' : MI} (h : ∀ a ∈ [24, 45, 55, 61], I' a = I a) (h4 : I' 44 12 = I 44 12) (hp : PP c I) : PP c I' := by
  unfold PP thg
  rw [h4, h 24 (by decide), h 45 (by decide), h 55 (by decide), h 61 (by decide)]
  exact hp
theorem PP_0 {c : Nat} {I : MI} (h : I 44 12 = 0) : PP c I := fun q => absurd (h.symm.trans q) (by decide)
/-- frames, where they were written: where each TILE's bytes lie, and that they are alike -/
def PF (I : MI) : Prop := I 44 14 = 1 → ∃ T, T ≤ 36 ∧ I 16 1 = nI T ∧ ∀ t, t < T → ∃ st fs, 1 ≤ fs ∧ fs ≤ 37 ∧ st + fs ≤ 324 ∧ I 36 t = nI st ∧ I 36 (t + 1) = nI (st + fs) ∧ I 69 t = nI fs ∧ ∀ j, j < fs → I 35 (st + j) = I 68 (40 * t + j) ∧ ∃ v, v < 256 ∧ I 68 (40 * t + j) = nI v
theorem PF_fr {I I' : MI} (h : ∀ a ∈ [35, 36, 68, 69], I' a = I a) (h6 : I' 16 1 = I 16 1) (h4 : I' 44 14 = I 44 14) (hp : PF I) : PF I' := by
  unfold PF
  rw [h4, h6, h 35 (by decide), h 36 (by decide), h 68 (by decide), h 69 (by decide)]
  exact hp
theorem PF_0 {I : MI} (h : I 44 14 = 0) : PF I := fun q => absurd (h.symm.trans q) (by decide)
