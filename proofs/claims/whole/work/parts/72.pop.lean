/-! how many bits: the library's way of counting, byte by byte -/
theorem bc_and {a b c d : Nat} (hb : b < 256) (hd : d < 256) : (256 * a + b) &&& (256 * c + d) = 256 * (a &&& c) + (b &&& d) := by
  have hbd : (b &&& d) < 2 ^ 8 := Nat.lt_of_le_of_lt Nat.and_le_left hb
  have e1 := fun i => Nat.testBit_two_pow_mul_add (i := 8) a hb i
  have e2 := fun i => Nat.testBit_two_pow_mul_add (i := 8) c hd i
  have e3 := fun i => Nat.testBit_two_pow_mul_add (i := 8) (a &&& c) hbd i
  apply Nat.eq_of_testBit_eq
  intro i
  have e1 := e1 i
  have e2 := e2 i
  have e3 := e3 i
  rw [show (2 : Nat) ^ 8 = 256 from rfl] at e1 e2 e3
  rw [Nat.testBit_and, e1, e2, e3]
  by_cases h : i < 8
  · rw [if_pos h, if_pos h, if_pos h, Nat.testBit_and]
  · rw [if_neg h, if_neg h, if_neg h, Nat.testBit_and]
def bc_m (d : Nat) : Nat → Nat
  | 0 => 0
  | k + 1 => 256 * bc_m d k + d
def bc_1 (k x : Nat) : Nat := x - ((x / 2) &&& bc_m 85 k)
def bc_2 (k x : Nat) : Nat := (x &&& bc_m 51 k) + ((x / 4) &&& bc_m 51 k)
def bc_3 (k x : Nat) : Nat := (x + x / 16) &&& bc_m 15 k
theorem bc_85 : ∀ l, l < 256 → ∀ e, e < 2 → (128 * e + l / 2) &&& 85 = (l / 2) &&& 85 := by decide +kernel
theorem bc_51 : ∀ l, l < 256 → ∀ e, e < 4 → (64 * e + l / 4) &&& 51 = (l / 4) &&& 51 := by decide +kernel
def bc_s1 (l : Nat) : Nat := l - ((l / 2) &&& 85)
def bc_s2 (l : Nat) : Nat := (l &&& 51) + ((l / 4) &&& 51)
theorem bc_byte : ∀ l, l < 256 → bc_s1 l < 256 ∧ bc_s2 (bc_s1 l) % 16 ≤ 4 ∧ bc_s2 (bc_s1 l) ≤ 68 ∧ (bc_s2 (bc_s1 l) + bc_s2 (bc_s1 l) / 16) &&& 15 = ct_pop 8 l := by decide +kernel
theorem bc_1s {k h l : Nat} (hl : l < 256) : bc_1 (k + 1) (256 * h + l) = 256 * bc_1 k h + bc_s1 l := by
  unfold bc_1 bc_s1
  have e : (256 * h + l) / 2 = 256 * (h / 2) + (128 * (h % 2) + l / 2) := by omega
  rw [e]
  show _ - ((256 * (h / 2) + (128 * (h % 2) + l / 2)) &&& (256 * bc_m 85 k + 85)) = _
  rw [bc_and (by omega) (by decide), bc_85 l hl (h % 2) (by omega)]
  have h1 : (h / 2) &&& bc_m 85 k ≤ h / 2 := Nat.and_le_left
  have h2 : (l / 2) &&& 85 ≤ l / 2 := Nat.and_le_left
  omega
theorem bc_2s {k h l : Nat} (hl : l < 256) : bc_2 (k + 1) (256 * h + l) = 256 * bc_2 k h + bc_s2 l := by
  unfold bc_2 bc_s2
  have e : (256 * h + l) / 4 = 256 * (h / 4) + (64 * (h % 4) + l / 4) := by omega
  rw [e]
  show ((256 * h + l) &&& (256 * bc_m 51 k + 51)) + ((256 * (h / 4) + (64 * (h % 4) + l / 4)) &&& (256 * bc_m 51 k + 51)) = _
  rw [bc_and hl (by decide), bc_and (by omega) (by decide), bc_51 l hl (h % 4) (by omega)]
  omega
theorem bc_3s {k h l : Nat} (hl : l ≤ 68) (hh : h % 16 ≤ 4) : bc_3 (k + 1) (256 * h + l) = 256 * bc_3 k h + ((l + l / 16) &&& 15) := by
  unfold bc_3
  have e : 256 * h + l + (256 * h + l) / 16 = 256 * (h + h / 16) + (l + 16 * (h % 16) + l / 16) := by omega
  rw [e]
  show (256 * (h + h / 16) + (l + 16 * (h % 16) + l / 16)) &&& (256 * bc_m 15 k + 15) = _
  rw [bc_and (by omega) (by decide)]
  have m := fun x => Nat.and_two_pow_sub_one_eq_mod x 4
  have m1 := m (l + 16 * (h % 16) + l / 16)
  have m2 := m (l + l / 16)
  rw [show (2 : Nat) ^ 4 - 1 = 15 from rfl, show (2 : Nat) ^ 4 = 16 from rfl] at m1 m2
  rw [m1, m2]
  omega
def bc_w : Nat → Nat → Nat
  | 0, _ => 0
  | k + 1, x => 256 * bc_w k (x / 256) + ct_pop 8 (x % 256)
theorem bc_all : ∀ k x, x < 256 ^ k → bc_3 k (bc_2 k (bc_1 k x)) = bc_w k x ∧ bc_2 k (bc_1 k x) % 16 ≤ 4 := by
  intro k
  induction k with
  | zero =>
    intro x hx
    have : x = 0 := by
      have : (256 : Nat) ^ 0 = 1 := rfl
      omega
    subst this
    decide
  | succ k ih =>
    intro x hx
    have hh : x / 256 < 256 ^ k := by
      rw [Nat.pow_succ, Nat.mul_comm] at hx
      exact Nat.div_lt_of_lt_mul hx
    obtain ⟨i1, i2⟩ := ih (x / 256) hh
    obtain ⟨b1, b2, b3, b4⟩ := bc_byte (x % 256) (by omega)
    have ex : x = 256 * (x / 256) + x % 256 := by omega
    have e1 : bc_1 (k + 1) x = 256 * bc_1 k (x / 256) + bc_s1 (x % 256) := by
      rw [← bc_1s (by omega), ← ex]
    rw [e1, bc_2s b1]
    refine ⟨?_, ?_⟩
    · rw [bc_3s b3 i2, i1, b4]
      rfl
    · omega
theorem ct_pop_byte (h l : Nat) (hl : l < 256) : ∀ k, ct_pop (8 + k) (256 * h + l) = ct_pop 8 l + ct_pop k h := by
  have tb := fun i => Nat.testBit_two_pow_mul_add (i := 8) h hl i
  rw [show (2 : Nat) ^ 8 = 256 from rfl] at tb
  have z : ∀ k, k ≤ 8 → ct_pop k (256 * h + l) = ct_pop k l := by
    intro k
    induction k with
    | zero => intro _; rfl
    | succ k ih =>
      intro hk
      show (if (256 * h + l).testBit k = true then ct_pop k (256 * h + l) + 1 else ct_pop k (256 * h + l)) = (if l.testBit k = true then ct_pop k l + 1 else ct_pop k l)
      rw [tb, if_pos (show k < 8 by omega), ih (by omega)]
  intro k
  induction k with
  | zero => exact z 8 (by omega)
  | succ k ih =>
    show (if (256 * h + l).testBit (8 + k) = true then ct_pop (8 + k) (256 * h + l) + 1 else ct_pop (8 + k) (256 * h + l)) = ct_pop 8 l + (if h.testBit k = true then ct_pop k h + 1 else ct_pop k h)
    rw [tb, if_neg (show ¬ 8 + k < 8 by omega), show 8 + k - 8 = k by omega, ih]
    split <;> omega
theorem ct_pop_div (x k : Nat) : ct_pop (8 + k) x = ct_pop 8 (x % 256) + ct_pop k (x / 256) := by
  rw [← ct_pop_byte (x / 256) (x % 256) (by omega) k]
  congr 1
  omega
theorem bc_dv {x l h p : Nat} (e : x = l + p * h) (hl : l < p) : x / p = h := by
  rw [e, Nat.add_mul_div_left _ _ (by omega), Nat.div_eq_of_lt hl, Nat.zero_add]
theorem bc_md {x l h p : Nat} (e : x = l + p * h) (hl : l < p) : x % p = l := by
  rw [e, Nat.add_mul_mod_self_left, Nat.mod_eq_of_lt hl]
theorem bc_end {b0 b1 b2 b3 b4 b5 b6 b7 W : Nat} (hW : W = b0 + 256 * b1 + 65536 * b2 + 16777216 * b3 + 4294967296 * b4 + 1099511627776 * b5 + 281474976710656 * b6 + 72057594037927936 * b7) (p0 : b0 ≤ 8) (p1 : b1 ≤ 8) (p2 : b2 ≤ 8) (p3 : b3 ≤ 8) (p4 : b4 ≤ 8) (p5 : b5 ≤ 8) (p6 : b6 ≤ 8) (p7 : b7 ≤ 8) : (W + W / 256 + (W + W / 256) / 65536 + (W + W / 256 + (W + W / 256) / 65536) / 4294967296) % 128 = b0 + b1 + b2 + b3 + b4 + b5 + b6 + b7 := by
  have h1 : W / 256 = (b1 + 256 * b2 + 65536 * b3 + 16777216 * b4 + 4294967296 * b5 + 1099511627776 * b6 + 281474976710656 * b7) := bc_dv (l := b0) (by omega) (by omega)
  rw [h1]
  clear h1
  have h2 : (W + (b1 + 256 * b2 + 65536 * b3 + 16777216 * b4 + 4294967296 * b5 + 1099511627776 * b6 + 281474976710656 * b7)) / 65536 = ((b2 + b3) + 256 * (b3 + b4) + 65536 * (b4 + b5) + 16777216 * (b5 + b6) + 4294967296 * (b6 + b7) + 1099511627776 * b7) := bc_dv (l := (b0 + b1) + 256 * (b1 + b2)) (by omega) (by omega)
  rw [h2]
  clear h2
  have h3 : (W + (b1 + 256 * b2 + 65536 * b3 + 16777216 * b4 + 4294967296 * b5 + 1099511627776 * b6 + 281474976710656 * b7) + ((b2 + b3) + 256 * (b3 + b4) + 65536 * (b4 + b5) + 16777216 * (b5 + b6) + 4294967296 * (b6 + b7) + 1099511627776 * b7)) / 4294967296 = ((b4 + b5 + b6 + b7) + 256 * (b5 + b6 + b7) + 65536 * (b6 + b7) + 16777216 * b7) := bc_dv (l := (b0 + b1 + b2 + b3) + 256 * (b1 + b2 + b3 + b4) + 65536 * (b2 + b3 + b4 + b5) + 16777216 * (b3 + b4 + b5 + b6)) (by omega) (by omega)
  rw [h3]
  clear h3
  exact bc_md (h := 2 * ((b1 + b2 + b3 + b4) + (b5 + b6 + b7)) + 512 * ((b2 + b3 + b4 + b5) + (b6 + b7)) + 131072 * ((b3 + b4 + b5 + b6) + b7) + 33554432 * (b4 + b5 + b6 + b7) + 8589934592 * (b5 + b6 + b7) + 2199023255552 * (b6 + b7) + 562949953421312 * b7) (by omega) (by omega)
theorem ushrL_n {x k : Nat} (hx : x < 2 ^ 64) (hk : k < 64) : ushrL (lN x) (nI k) = lN (x / 2 ^ k) := wb_shr hx hk
theorem bitCount_eq (n : Nat) {x : Nat} (hx : x < 2 ^ 64) (I : MI) (J : MJ) : fJ13_bitCount_95d88 n (lN x) I J = some (nI (ct_pop 64 x), I, J) := by
  have hx8 : x < 256 ^ 8 := hx
  obtain ⟨a1, a2⟩ := bc_all 8 x hx8
  have ew : bc_w 8 x = ct_pop 8 (x % 256) + 256 * ct_pop 8 (x / 256 % 256) + 65536 * ct_pop 8 (x / 256 / 256 % 256) + 16777216 * ct_pop 8 (x / 256 / 256 / 256 % 256) + 4294967296 * ct_pop 8 (x / 256 / 256 / 256 / 256 % 256) + 1099511627776 * ct_pop 8 (x / 256 / 256 / 256 / 256 / 256 % 256) + 281474976710656 * ct_pop 8 (x / 256 / 256 / 256 / 256 / 256 / 256 % 256) + 72057594037927936 * ct_pop 8 (x / 256 / 256 / 256 / 256 / 256 / 256 / 256 % 256) := by
    simp only [bc_w]
    omega
  have ep : ct_pop 64 x = ct_pop 8 (x % 256) + ct_pop 8 (x / 256 % 256) + ct_pop 8 (x / 256 / 256 % 256) + ct_pop 8 (x / 256 / 256 / 256 % 256) + ct_pop 8 (x / 256 / 256 / 256 / 256 % 256) + ct_pop 8 (x / 256 / 256 / 256 / 256 / 256 % 256) + ct_pop 8 (x / 256 / 256 / 256 / 256 / 256 / 256 % 256) + ct_pop 8 (x / 256 / 256 / 256 / 256 / 256 / 256 / 256 % 256) := by
    have d1 := ct_pop_div x 56
    have d2 := ct_pop_div (x / 256) 48
    have d3 := ct_pop_div (x / 256 / 256) 40
    have d4 := ct_pop_div (x / 256 / 256 / 256) 32
    have d5 := ct_pop_div (x / 256 / 256 / 256 / 256) 24
    have d6 := ct_pop_div (x / 256 / 256 / 256 / 256 / 256) 16
    have d7 := ct_pop_div (x / 256 / 256 / 256 / 256 / 256 / 256) 8
    have d8 : x / 256 / 256 / 256 / 256 / 256 / 256 / 256 % 256 = x / 256 / 256 / 256 / 256 / 256 / 256 / 256 := by omega
    rw [d8]
    simp only [Nat.reduceAdd] at d1 d2 d3 d4 d5 d6 d7
    omega
  have p0 := ct_pop_le (x % 256) 8
  have p1 := ct_pop_le (x / 256 % 256) 8
  have p2 := ct_pop_le (x / 256 / 256 % 256) 8
  have p3 := ct_pop_le (x / 256 / 256 / 256 % 256) 8
  have p4 := ct_pop_le (x / 256 / 256 / 256 / 256 % 256) 8
  have p5 := ct_pop_le (x / 256 / 256 / 256 / 256 / 256 % 256) 8
  have p6 := ct_pop_le (x / 256 / 256 / 256 / 256 / 256 / 256 % 256) 8
  have p7 := ct_pop_le (x / 256 / 256 / 256 / 256 / 256 / 256 / 256 % 256) 8
  generalize ct_pop 8 (x % 256) = b0 at *
  generalize ct_pop 8 (x / 256 % 256) = b1 at *
  generalize ct_pop 8 (x / 256 / 256 % 256) = b2 at *
  generalize ct_pop 8 (x / 256 / 256 / 256 % 256) = b3 at *
  generalize ct_pop 8 (x / 256 / 256 / 256 / 256 % 256) = b4 at *
  generalize ct_pop 8 (x / 256 / 256 / 256 / 256 / 256 % 256) = b5 at *
  generalize ct_pop 8 (x / 256 / 256 / 256 / 256 / 256 / 256 % 256) = b6 at *
  generalize ct_pop 8 (x / 256 / 256 / 256 / 256 / 256 / 256 / 256 % 256) = b7 at *
  have hw : bc_w 8 x < 2 ^ 60 := by omega
  have h1 : x - (x / 2 ^ 1 &&& 6148914691236517205) = bc_1 8 x := rfl
  have l1 : bc_1 8 x ≤ x := Nat.sub_le _ _
  have h2 : (bc_1 8 x &&& 3689348814741910323) + (bc_1 8 x / 2 ^ 2 &&& 3689348814741910323) = bc_2 8 (bc_1 8 x) := rfl
  have l2 : bc_2 8 (bc_1 8 x) < 2 ^ 63 := by
    have q1 : bc_1 8 x &&& bc_m 51 8 ≤ bc_m 51 8 := Nat.and_le_right
    have q2 : bc_1 8 x / 4 &&& bc_m 51 8 ≤ bc_m 51 8 := Nat.and_le_right
    have q3 : bc_m 51 8 = 3689348814741910323 := rfl
    unfold bc_2
    omega
  have h3 : (bc_2 8 (bc_1 8 x) + bc_2 8 (bc_1 8 x) / 2 ^ 4) &&& 1085102592571150095 = bc_3 8 (bc_2 8 (bc_1 8 x)) := rfl
  unfold fJ13_bitCount_95d88
  simp only [lt]
  rw [show (1 : Int32) = nI 1 from rfl, show (2 : Int32) = nI 2 from rfl, show (4 : Int32) = nI 4 from rfl, show (8 : Int32) = nI 8 from rfl, show (16 : Int32) = nI 16 from rfl, show (32 : Int32) = nI 32 from rfl, show (6148914691236517205 : Int64) = lN 6148914691236517205 from rfl, show (3689348814741910323 : Int64) = lN 3689348814741910323 from rfl, show (1085102592571150095 : Int64) = lN 1085102592571150095 from rfl]
  rw [ushrL_n hx (by decide), wb_and (by omega) (by decide), lN_sub (by have : (x / 2 ^ 1 &&& 6148914691236517205) ≤ x / 2 ^ 1 := Nat.and_le_left; omega), h1]
  rw [ushrL_n (show bc_1 8 x < 2 ^ 64 by omega) (by decide), wb_and (by omega) (by decide), wb_and (by omega) (by decide), lN_add, h2]
  rw [ushrL_n (show bc_2 8 (bc_1 8 x) < 2 ^ 64 by omega) (by decide), lN_add, wb_and (by omega) (by decide), h3, a1]
  generalize bc_w 8 x = W at *
  rw [ushrL_n (show W < 2 ^ 64 by omega) (by decide), lN_add, ushrL_n (show W + W / 2 ^ 8 < 2 ^ 64 by omega) (by decide), lN_add, ushrL_n (show W + W / 2 ^ 8 + (W + W / 2 ^ 8) / 2 ^ 16 < 2 ^ 64 by omega) (by decide), lN_add, lN_i, show (127 : Int32) = nI 127 from rfl, nx_and]
  have hm := Nat.and_two_pow_sub_one_eq_mod (W + W / 2 ^ 8 + (W + W / 2 ^ 8) / 2 ^ 16 + (W + W / 2 ^ 8 + (W + W / 2 ^ 8) / 2 ^ 16) / 2 ^ 32) 7
  rw [show (2 : Nat) ^ 7 - 1 = 127 from rfl, show (2 : Nat) ^ 7 = 128 from rfl] at hm
  rw [hm, ep]
  rw [show (2 : Nat) ^ 8 = 256 from rfl, show (2 : Nat) ^ 16 = 65536 from rfl, show (2 : Nat) ^ 32 = 4294967296 from rfl, bc_end ew p0 p1 p2 p3 p4 p5 p6 p7]
