theorem max_l {a b : Nat} (ha : a ≤ 31) (hb : b ≤ 31) : (if lN (1 + b) < lN (1 + a) then lN (1 + a) else lN (1 + b)) = lN (1 + max a b) := by
  by_cases q : b < a
  · rw [if_pos ((lM_lt (a := 1 + b) (b := 1 + a) (by omega) (by omega)).mpr (by omega)), Nat.max_eq_left (by omega)]
  · rw [if_neg (fun z => q (by have := (lM_lt (a := 1 + b) (b := 1 + a) (by omega) (by omega)).mp z; omega)), Nat.max_eq_right (by omega)]
theorem offer_raw (n : Nat) {x1 C : Int32} {x y S P Q M R : Int64} {I : MI} {J : MJ} (h1 : (x ||| y) &&& 4294967295 = S) (h2 : fJ13_bitCount_95d88 n S I J = some (C, I, J)) (h3 : ushrL x 40 = P) (h4 : ushrL y 40 = Q) (h5 : (if Q < P then P else Q) = M) (h6 : fX0_rank n M C.toInt64 S I J = some (R, I, J)) : fX0_offer n x1 x y I J = if 4 < C then some (I, J) else fX0_insert n x1 R I J := by
  unfold fX0_offer
  simp only [lt]
  rw [h1, h2]
  simp only [Option.bind_some]
  rw [h3, h4, h5, h6]
  simp only [Option.bind_some]
  rw [bind_e2]
theorem offer_ok (n : Nat) (hn : 2400 < n) {g u v : Nat} {D : Nat → Nat} {p : Cuts} (hg : g < 32) (hD : ∀ i, i < g → D i ≤ i) (hu : u < 2 ^ g) (hv : v < 2 ^ g) (hp : ct_ok (ct_rk g D) g p) (I : MI) (J : MJ) (h8 : I 8 g = nI p.1) (hJ : ∀ i, i < p.1 → J 10 (40 * g + i) = lN (ct_rk g D (p.2 i))) : ∃ J', fX0_offer n (nI g) (lN (ct_rk g D u)) (lN (ct_rk g D v)) I J = some (upM I 8 g (nI (ct_stp (ct_rk g D) (u ||| v) p).1), J') ∧ (∀ i, i < (ct_stp (ct_rk g D) (u ||| v) p).1 → J' 10 (40 * g + i) = lN (ct_rk g D ((ct_stp (ct_rk g D) (u ||| v) p).2 i))) ∧ ∀ a b, (a ≠ 10 ∨ b < 40 * g ∨ 40 * g + 40 ≤ b) → J' a b = J a b := by
  obtain ⟨u1, u2, u3, u4⟩ := rk_lt (by omega) hD hu
  obtain ⟨v1, v2, v3, v4⟩ := rk_lt (by omega) hD hv
  have huv : u ||| v < 2 ^ g := Nat.or_lt_two_pow hu hv
  obtain ⟨w1, w2, w3, w4⟩ := rk_lt (by omega) hD huv
  have emax : (if lN (1 + ct_md D g v) < lN (1 + ct_md D g u) then lN (1 + ct_md D g u) else lN (1 + ct_md D g v)) = lN (1 + ct_md D g (u ||| v)) := by
    rw [ct_md_or]
    exact max_l u1 v1
  have e1 : (nI (ct_pop 32 (u ||| v))).toInt64 = lN (ct_pop 32 (u ||| v)) := Int32.toInt64_ofNat' (by rw [Int32.toInt_maxValue]; omega)
  have hraw := offer_raw n (x1 := nI g) (I := I) (J := J) (set_or u3 v3 u4 v4) (bitCount32 n w3 I J) (shr40 u2 u3 u4) (shr40 v2 v3 v4) emax (by rw [e1]; exact rank_eq n (by omega) (by omega) w3 I J)
  have erk : (1 + ct_md D g (u ||| v)) * 1099511627776 + ct_pop 32 (u ||| v) * 4294967296 + (u ||| v) = ct_rk g D (u ||| v) := rfl
  rw [erk] at hraw
  rw [hraw]
  clear hraw erk e1 emax
  unfold ct_stp
  by_cases h4 : ct_pop 32 (u ||| v) ≤ 4
  · rw [if_neg (show ¬ (4 : Int32) < nI (ct_pop 32 (u ||| v)) from nI_nlt (a := 4) h4 (by decide)), if_pos h4]
    exact insert_ok n hn (g := g) (v := g) (s := u ||| v) (r := ct_rk g D) (p := p) hg hp (fun i hi => Nat.lt_trans (rk_lt (D := D) (by omega) hD (hp.2.2 i hi).1).2.2.2 (by decide)) (Nat.lt_trans w4 (by decide)) (fun i hi e => ct_rk_inj (ct_lt32 (by omega) (hp.2.2 i hi).1) w3 e) I J h8 hJ
  · rw [if_pos (show (4 : Int32) < nI (ct_pop 32 (u ||| v)) from nI_lt (a := 4) (by omega) (by omega)), if_neg h4, upM_id h8]
    exact ⟨J, rfl, hJ, fun _ _ _ => rfl⟩
