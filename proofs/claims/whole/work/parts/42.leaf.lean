/-! leaves: what the small methods of both sides answer -/
def b2 (p : Prop) [Decidable p] : Int32 := if p then 1 else 0
theorem b2_0 {p : Prop} [Decidable p] : b2 p = 0 ↔ ¬ p := by
  unfold b2
  by_cases h : p <;> simp [h]
theorem b2_t {p : Prop} [Decidable p] (h : p) : b2 p = 1 := if_pos h
theorem b2_f {p : Prop} [Decidable p] (h : ¬ p) : b2 p = 0 := if_neg h
theorem nb_b2 {p : Prop} [Decidable p] : nb (b2 p) = true := by
  unfold b2
  by_cases h : p
  · rw [if_pos h]; decide
  · rw [if_neg h]; decide
theorem rng_eq {α : Type} (x m : Int32) (a : α) : (if x < 0 then some ((0 : Int32), a) else (if m ≤ x then some ((0 : Int32), a) else some ((1 : Int32), a))) = some (b2 (0 ≤ x ∧ x < m), a) := by
  by_cases h1 : x < 0
  · rw [if_pos h1, b2_f (fun h => Int32.not_le.mpr h1 h.1)]
  · rw [if_neg h1]
    by_cases h2 : m ≤ x
    · rw [if_pos h2, b2_f (fun h => Int32.not_lt.mpr h2 h.2)]
    · rw [if_neg h2, b2_t ⟨Int32.not_lt.mp h1, Int32.not_le.mp h2⟩]
theorem has_eq (n : Nat) (x : Int32) (I : MI) (J : MJ) : fX3_has n x I J = some (b2 (0 ≤ x ∧ x < I 1 5), I, J) := rng_eq x (I 1 5) (I, J)
theorem isCell_eq (n : Nat) (x : Int32) (I : MI) (J : MJ) : fX10_isCell n x I J = some (b2 (0 ≤ x ∧ x < I 44 6), I, J) := rng_eq x (I 44 6) (I, J)
theorem hasSign_eq (n : Nat) (x : Int32) (I : MI) (J : MJ) : fX3_hasSign n x I J = some (b2 (0 ≤ x ∧ x < 2 * I 1 5), I, J) := rng_eq x (2 * I 1 5) (I, J)
theorem isSign_eq (n : Nat) (x : Int32) (I : MI) (J : MJ) : fX10_isSign n x I J = some (b2 (0 ≤ x ∧ x < 2 * I 44 6), I, J) := rng_eq x (2 * I 44 6) (I, J)
theorem hasTile_eq (n : Nat) (x : Int32) (I : MI) (J : MJ) : fX2_hasTile n x I J = some (b2 (0 ≤ x ∧ x < I 16 1), I, J) := rng_eq x (I 16 1) (I, J)
theorem hasJoint_eq (n : Nat) (x : Int32) (I : MI) (J : MJ) : fX2_hasJoint n x I J = some (b2 (0 ≤ x ∧ x < I 16 2), I, J) := rng_eq x (I 16 2) (I, J)
theorem isTile_eq (n : Nat) (x : Int32) (I : MI) (J : MJ) : fX10_isTile n x I J = some (b2 (0 ≤ x ∧ x < I 44 24 * I 44 25), I, J) := rng_eq x (I 44 24 * I 44 25) (I, J)
def jnt (I : MI) : Int32 := I 44 25 * (I 44 24 - 1) + I 44 24 * (I 44 25 - 1)
theorem joints_eq (n : Nat) (I : MI) (J : MJ) : fX10_joints n I J = some (jnt I, I, J) := rfl
theorem tiles_eq (n : Nat) (I : MI) (J : MJ) : fX10_tiles n I J = some (I 44 24 * I 44 25, I, J) := rfl
theorem isJoint_eq (n : Nat) (x : Int32) (I : MI) (J : MJ) : fX10_isJoint n x I J = some (b2 (0 ≤ x ∧ x < jnt I), I, J) := rng_eq x (jnt I) (I, J)
theorem forgetWays_eq (n : Nat) (I : MI) (J : MJ) : fX9_forgetWays n I J = some (upM (upM I 28 0 0) 34 0 0, J) := rfl
theorem forgetPlaces_eq (n : Nat) (I : MI) (J : MJ) : fX9_forgetPlaces n I J = some (upM (upM (upM I 22 0 0) 28 0 0) 34 0 0, J) := rfl
theorem moved_eq (n : Nat) (I : MI) (J : MJ) : fX10_moved n I J = some (upM (upM I 44 13 0) 44 14 0, J) := rfl
theorem unset_eq (n : Nat) (I : MI) (J : MJ) : fX10_unset n I J = some (upM (upM (upM I 44 12 0) 44 13 0) 44 14 0, J) := rfl
/-! bits of longs -/
def bl (x : Int64) (i : Nat) : Bool := x.toBitVec.getLsbD i
theorem ushrL_bit (x : Int64) {i : Nat} (hi : i < 64) : (ushrL x (nI i) &&& 1) = 0 ↔ bl x i = false := by
  unfold ushrL bl
  rw [wb_cu i hi]
  exact ts_bit hi (u_tn (by omega))
theorem ushrL_bit1 (x : Int64) {i : Nat} (hi : i < 64) : (ushrL x (nI i) &&& 1) = 1 ↔ bl x i = true := by
  have h0 := ushrL_bit x hi
  have h2 : ∀ z : Int64, z &&& 1 = 0 ∨ z &&& 1 = 1 := by
    intro z
    obtain ⟨k, hk, rfl⟩ := wb_of z
    rw [wb_a1 hk]
    rcases Nat.mod_two_eq_zero_or_one k with h | h <;> rw [h]
    · left; rfl
    · right; rfl
  rcases h2 (ushrL x (nI i)) with h | h
  · rw [h]
    constructor
    · intro q; exact absurd q (by decide)
    · intro q; rw [h0.mp h] at q; cases q
  · rw [h]
    constructor
    · intro _
      cases hb : bl x i with
      | true => rfl
      | false => have := h0.mpr hb; rw [h] at this; exact absurd this (by decide)
    · intro _; rfl
theorem hasBit_eq (n : Nat) (x : Int64) {i : Nat} (hi : i < 64) (I : MI) (J : MJ) : fX9_hasBit n x (nI i) I J = some (b2 (bl x i = true), I, J) := by
  unfold fX9_hasBit
  have hc : lg_cmp (ushrL x (nI i) &&& 1) 1 = 0 ↔ bl x i = true := by
    rw [← ushrL_bit1 x hi]
    unfold lg_cmp
    constructor
    · intro h
      by_cases h1 : (ushrL x (nI i) &&& 1) > 1
      · rw [if_pos h1] at h; exact absurd h (by decide)
      · rw [if_neg h1] at h
        by_cases h2 : (ushrL x (nI i) &&& 1) = 1
        · exact h2
        · rw [if_neg h2] at h; exact absurd h (by decide)
    · intro h; rw [h]; decide
  by_cases h : bl x i = true
  · rw [if_pos (hc.mpr h), b2_t h]
  · rw [if_neg (fun q => h (hc.mp q)), b2_f h]
theorem isBroken_eq (n : Nat) {i : Nat} (hi : i < 64) (I : MI) (J : MJ) : fX2_isBroken n (nI i) I J = some (b2 (bl (J 16 9) i = true), I, J) := by
  unfold fX2_isBroken
  rw [hasBit_eq n _ hi]
  show (if nb (b2 _) = true then _ else none) = _
  rw [if_pos nb_b2]
theorem roomOf_eq (n : Nat) {i : Nat} (hi : i < 64) (I : MI) (J : MJ) : fX2_roomOf n (nI i) I J = some (if bl (J 16 9) i = true then 0 else I 16 8, I, J) := by
  unfold fX2_roomOf
  rw [isBroken_eq n hi]
  show (if b2 _ = 0 then _ else _) = _
  by_cases h : bl (J 16 9) i = true
  · rw [if_neg (by rw [b2_0]; exact fun q => q h), if_pos h]
  · rw [if_pos (by rw [b2_0]; exact h), if_neg h]
/-- an int that is widened keeps its 32 bits -/
theorem bl_wide (x : Int32) {i : Nat} (hi : i < 32) : bl x.toInt64 i = bt x i := by
  unfold bl bt
  rw [Int32.toBitVec_toInt64, BitVec.getLsbD_signExtend]
  simp [hi, Nat.lt_trans hi (by decide : 32 < 64)]
theorem isTable_eq (n : Nat) {i : Nat} (hi : i < 32) (I : MI) (J : MJ) : fX7_isTable n (nI i) I J = some (b2 (bt (I 11 6) i = true), I, J) := by
  unfold fX7_isTable
  rw [hasBit_eq n _ (Nat.lt_trans hi (by decide : 32 < 64)), bl_wide _ hi]
  show (if nb (b2 _) = true then _ else none) = _
  rw [if_pos nb_b2]
theorem clampI {c : Nat} (h : c < 2 ^ 31) : (nI c).toNatClampNeg = c := nI_clamp h
theorem isThing_eq (n : Nat) {i : Nat} (hi : i < 32) (I : MI) (J : MJ) : fX10_isThing n (nI i) I J = some (b2 (¬ I 45 i = 2 ∨ ¬ I 55 i = 0), I, J) := by
  unfold fX10_isThing fX10_isThing_19
  rw [if_pos (inb_nI hi (by decide)), if_pos (inb_nI hi (by decide)), clampI (by omega)]
  by_cases h1 : I 45 i = 2
  · rw [if_pos h1]
    by_cases h2 : I 55 i = 0
    · rw [if_pos h2, b2_f (fun h => h.elim (fun q => q h1) (fun q => q h2))]
    · rw [if_neg h2, b2_t (Or.inr h2)]
  · rw [if_neg h1, b2_t (Or.inl h1)]
theorem holds_eq (n : Nat) {i : Nat} (hi : i < 32) (I : MI) (J : MJ) : fX5_holds n (nI i) I J = some (b2 (¬ I 22 0 = 0 ∧ ¬ I 24 i = -1), I, J) := by
  unfold fX5_holds
  rw [if_pos (inb_nI hi (by decide)), clampI (by omega)]
  by_cases h1 : I 22 0 = 0
  · rw [if_pos h1, b2_f (fun h => h.1 h1)]
  · rw [if_neg h1]
    by_cases h2 : I 24 i = -1
    · rw [if_pos h2, b2_f (fun h => h.2 h2)]
    · rw [if_neg h2, b2_t ⟨h1, h2⟩]
