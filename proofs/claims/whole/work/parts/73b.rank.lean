theorem rank_eq (n : Nat) {d p s : Nat} (hd : d < 1048576) (hp : p < 256) (hs : s < 4294967296) (I : MI) (J : MJ) : fX0_rank n (lN d) (lN p) (lN s) I J = some (lN (d * 1099511627776 + p * 4294967296 + s), I, J) := by
  unfold fX0_rank shlL
  rw [show (40 : Int32) = nI 40 from rfl, show (32 : Int32) = nI 32 from rfl, wb_shl d (k := 40) (by decide), wb_shl p (k := 32) (by decide), show (2 : Nat) ^ 40 = 1099511627776 from rfl, show (2 : Nat) ^ 32 = 4294967296 from rfl]
  rw [g_or (k := 40) (p := 1099511627776) (a := p * 4294967296) (b := d) (by decide) (by omega) (by omega)]
  have e : d * 1099511627776 + p * 4294967296 = (d * 256 + p) * 4294967296 := by omega
  rw [e, g_or (k := 32) (p := 4294967296) (a := s) (b := d * 256 + p) (by decide) hs (by omega)]
theorem rk_ext {a g s : Nat} {D : Nat → Nat} (h : s < 2 ^ a) (ha : a ≤ g) : ct_rk g D s = ct_rk a D s := by
  unfold ct_rk
  rw [ct_md_ext h g ha]
theorem rk_lt {g s : Nat} {D : Nat → Nat} (hg : g ≤ 32) (hD : ∀ i, i < g → D i ≤ i) (hs : s < 2 ^ g) : ct_md D g s ≤ 31 ∧ ct_pop 32 s ≤ 32 ∧ s < 4294967296 ∧ ct_rk g D s < 2 ^ 46 := by
  have h1 : ct_md D g s ≤ 31 := ct_md_le g (fun i hi => by have := hD i hi; omega) s
  have h2 := ct_pop_le s 32
  have h3 := ct_lt32 hg hs
  refine ⟨h1, h2, h3, ?_⟩
  unfold ct_rk
  omega
theorem choice_eq (n : Nat) {K : Nat → Cuts} {D : Nat → Nat} {I : MI} {J : MJ} {a g i : Nat} (ha : a < g) (hg : g ≤ 32) (hk : kcOk K D I J a) (hw : ct_ok (ct_rk a D) a (K a)) (hD : D a ≤ a) (hi : i ≤ (K a).1) : fX0_choice n (nI a) (nI i) I J = some (lN (ct_rk g D (ct_ch (K a) a i)), I, J) := by
  obtain ⟨k1, k2, k3⟩ := hk
  have hw1 := hw.1
  unfold fX0_choice ct_ch
  rw [if_pos (inb_nI (by omega) (by decide)), clampI (by omega), k1]
  by_cases hc : i < (K a).1
  · have e40 : nI a * 40 + nI i = nI (40 * a + i) := by rw [show (40 : Int32) = nI 40 from rfl, pk_mul, nI_add, Nat.mul_comm]
    rw [if_neg (nI_ge hc (by omega)), e40, if_pos (inb_nI (by omega) (by decide)), clampI (by omega), k3 i hc, if_pos hc, rk_ext (g := g) (hw.2.2 i hc).1 (by omega)]
  · rw [if_pos (nI_le (by omega) (by omega)), if_pos (inb_nI (by omega) (by decide)), if_neg hc, k2, nI_1]
    have e1 : (nI (D a + 1)).toInt64 = lN (D a + 1) := Int32.toInt64_ofNat' (by rw [Int32.toInt_maxValue]; omega)
    have e2 : shlL (1 : Int64) (nI a) = lN (2 ^ a) := by
      unfold shlL
      rw [show (1 : Int64) = lN 1 from rfl, wb_shl 1 (by omega), Nat.one_mul]
    rw [e1, e2, show (1 : Int64) = lN 1 from rfl, rank_eq n (by omega) (by decide) (ct_lt32 (g := a + 1) (by omega) (Nat.pow_lt_pow_right (by decide) (by omega)))]
    simp only [Option.bind_some]
    unfold ct_rk
    rw [ct_md_pow D g ha, ct_pop_pow 32 (by omega), Nat.add_comm (D a) 1]
theorem rk_mod {g s : Nat} {D : Nat → Nat} (hs : s < 4294967296) : ct_rk g D s % 4294967296 = s := by
  unfold ct_rk
  generalize ct_md D g s = a
  generalize ct_pop 32 s = b
  omega
theorem rk_div {g s : Nat} {D : Nat → Nat} (hp : ct_pop 32 s ≤ 32) (hs : s < 4294967296) : ct_rk g D s / 1099511627776 = 1 + ct_md D g s := by
  unfold ct_rk
  generalize ct_md D g s = a
  generalize ct_pop 32 s = b at *
  omega
theorem shr40 {g s : Nat} {D : Nat → Nat} (hp : ct_pop 32 s ≤ 32) (hs : s < 4294967296) (h : ct_rk g D s < 2 ^ 46) : ushrL (lN (ct_rk g D s)) 40 = lN (1 + ct_md D g s) := by
  rw [show (40 : Int32) = nI 40 from rfl, ushrL_n (Nat.lt_trans h (by decide)) (by decide), show (2 : Nat) ^ 40 = 1099511627776 from rfl, rk_div hp hs]
theorem set_or {g u v : Nat} {D : Nat → Nat} (hu : u < 4294967296) (hv : v < 4294967296) (u4 : ct_rk g D u < 2 ^ 46) (v4 : ct_rk g D v < 2 ^ 46) : (lN (ct_rk g D u) ||| lN (ct_rk g D v)) &&& 4294967295 = lN (u ||| v) := by
  have hor : ct_rk g D u ||| ct_rk g D v < 2 ^ 46 := Nat.or_lt_two_pow u4 v4
  have hm := Nat.and_two_pow_sub_one_eq_mod (ct_rk g D u ||| ct_rk g D v) 32
  rw [Nat.or_mod_two_pow, show (2 : Nat) ^ 32 - 1 = 4294967295 from rfl, show (2 : Nat) ^ 32 = 4294967296 from rfl, rk_mod hu, rk_mod hv] at hm
  rw [wb_or (Nat.lt_trans u4 (by decide)) (Nat.lt_trans v4 (by decide)), show (4294967295 : Int64) = lN 4294967295 from rfl, wb_and (Nat.lt_trans hor (by decide)) (by decide), hm]
theorem bitCount32 (n : Nat) {x : Nat} (hx : x < 4294967296) (I : MI) (J : MJ) : fJ13_bitCount_95d88 n (lN x) I J = some (nI (ct_pop 32 x), I, J) := (bitCount_eq n (Nat.lt_trans hx (by decide)) I J).trans (congrArg (fun z => some (nI z, I, J)) (ct_pop_ext (a := 32) hx 64 (by decide)))
