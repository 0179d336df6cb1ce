/-! the class's cuts -/
theorem lM_lt {a b : Nat} (ha : a < 2 ^ 63) (hb : b < 2 ^ 63) : lN a < lN b ↔ a < b := by
  rw [Int64.lt_iff_toInt_lt, pf_lI ha, pf_lI hb]
  omega
theorem lM_eq {a b : Nat} (ha : a < 2 ^ 63) (hb : b < 2 ^ 63) : lN a = lN b ↔ a = b := by
  rw [← Int64.toInt_inj, pf_lI ha, pf_lI hb]
  omega
theorem upM_up {I : MI} {k j : Nat} {v u : Int32} : upM (upM I k j v) k j u = upM I k j u := by
  funext a b
  rw [upM_get, upM_get, upM_get]
  by_cases h : a = k
  · rw [if_pos h, if_pos h, if_pos h]
    by_cases h2 : b = j
    · rw [if_pos h2, if_pos h2]
    · rw [if_neg h2, if_neg h2, if_neg h2]
  · rw [if_neg h, if_neg h, if_neg h]
theorem upM_id {I : MI} {k j : Nat} {v : Int32} (h : I k j = v) : upM I k j v = I := by
  funext a b
  rw [upM_get]
  by_cases h1 : a = k
  · rw [if_pos h1]
    by_cases h2 : b = j
    · rw [if_pos h2, h1, h2, h]
    · rw [if_neg h2]
  · rw [if_neg h1]
def shJ (J : MJ) (g k l : Nat) : MJ := fun a b => if a = 10 ∧ 40 * g + k < b ∧ b ≤ 40 * g + l then J 10 (b - 1) else J a b
theorem shJ_step {J : MJ} {g k l : Nat} (h : k < l) : upN (shJ J g (k + 1) l) 10 (40 * g + (k + 1)) (shJ J g (k + 1) l 10 (40 * g + k)) = shJ J g k l := by
  funext a b
  rw [upN_get]
  unfold shJ
  rw [if_neg (show ¬ ((10 : Nat) = 10 ∧ 40 * g + (k + 1) < 40 * g + k ∧ 40 * g + k ≤ 40 * g + l) from fun q => by omega)]
  by_cases ha : a = 10
  · by_cases hb : b = 40 * g + (k + 1)
    · rw [if_pos ha, if_pos hb, if_pos ⟨ha, by omega, by omega⟩, hb]
      rfl
    · rw [if_pos ha, if_neg hb]
      by_cases hc : 40 * g + (k + 1) < b ∧ b ≤ 40 * g + l
      · rw [if_pos ⟨ha, hc⟩, if_pos ⟨ha, by omega, hc.2⟩]
      · rw [if_neg (fun q => hc q.2), if_neg (fun q => hc ⟨by omega, q.2.2⟩)]
  · rw [if_neg ha, if_neg (fun q => ha q.1), if_neg (fun q => ha q.1)]
theorem ins_sh (n : Nat) {g a l : Nat} (hg : g < 32) (hl : l < 40) (X : Int64) (I : MI) (J : MJ) : ∀ q k, a ≤ k → k ≤ l → k < q + a → lX0_insert_101 n q (nI g) X (nI (40 * g)) (nI a) (nI l) (nI k) I (shJ J g k l) = some (upM I 8 g (nI (l + 1)), upN (shJ J g a l) 10 (40 * g + a) X) := by
  intro q
  induction q with
  | zero => intro k h1 h2 h3; omega
  | succ q ih =>
    intro k h1 h2 h3
    show fX0_insert_101 n (lX0_insert_101 n q) _ _ _ _ _ _ _ _ = _
    unfold fX0_insert_101
    by_cases hk : k = a
    · subst hk
      rw [if_pos (Int32.le_refl _), nI_add, if_pos (inb_nI (by omega) (by decide)), clampI (by omega)]
      simp only [lt, inb_nI hg (by decide), if_true, clampI (show g < 2 ^ 31 by omega), nI_1]
    · obtain ⟨k, rfl⟩ : ∃ z, k = z + 1 := ⟨k - 1, by omega⟩
      have e1 : nI (40 * g) + nI (k + 1) - 1 = nI (40 * g + k) := by
        rw [nI_add]
        exact pk_sub (a := 40 * g + (k + 1)) (b := 1) (by omega)
      rw [if_neg (nI_ge (by omega) (by omega)), e1, nI_add, if_pos (inb_nI (by omega) (by decide)), if_pos (inb_nI (by omega) (by decide)), clampI (by omega), clampI (by omega), pk_m1, shJ_step (by omega)]
      exact ih k (by omega) (by omega) (by omega)
/-- one cut more, or not -/
theorem insert_ok (n : Nat) (hn : 2400 < n) {g v s : Nat} {r : Nat → Nat} {p : Cuts} (hg : g < 32) (hp : ct_ok r v p) (hr : ∀ i, i < p.1 → r (p.2 i) < 2 ^ 63) (hs : r s < 2 ^ 63) (hinj : ∀ i, i < p.1 → r (p.2 i) = r s → p.2 i = s) (I : MI) (J : MJ) (h8 : I 8 g = nI p.1) (hJ : ∀ i, i < p.1 → J 10 (40 * g + i) = lN (r (p.2 i))) : ∃ J', fX0_insert n (nI g) (lN (r s)) I J = some (upM I 8 g (nI (ct_ent r s p).1), J') ∧ (∀ i, i < (ct_ent r s p).1 → J' 10 (40 * g + i) = lN (r ((ct_ent r s p).2 i))) ∧ ∀ a b, (a ≠ 10 ∨ b < 40 * g ∨ 40 * g + 40 ≤ b) → J' a b = J a b := by
  obtain ⟨p1, p2, p3⟩ := hp
  have hle := ct_at_le r s p
  have hlt : ∀ i, i < ct_at r s p → r (p.2 i) < r s := fun i h => ct_at_lt h
  have hge : ∀ i, ct_at r s p ≤ i → i < p.1 → r s ≤ r (p.2 i) := by
    intro i h1 h2
    have h3 := ct_at_at (r := r) (s := s) (p := p) (by omega)
    by_cases e : i = ct_at r s p
    · rw [e]; exact h3
    · exact Nat.le_trans h3 (Nat.le_of_lt (p2 _ i (by omega) h2))
  have scan : ∀ q a, ct_at r s p ≤ a → a ≤ p.1 → a < q + ct_at r s p → lX0_insert_18 n q (nI g) (lN (r s)) (nI (40 * g)) (nI p.1) (nI a) I J = fX0_insert_46 n (nI g) (lN (r s)) (nI (40 * g)) (nI p.1) (nI (ct_at r s p)) I J := by
    intro q
    induction q with
    | zero => intro a h1 h2 h3; omega
    | succ q ih =>
      intro a h1 h2 h3
      show fX0_insert_18 n (lX0_insert_18 n q) _ _ _ _ _ _ _ = _
      unfold fX0_insert_18
      by_cases ha0 : a = 0
      · rw [if_pos (show nI a ≤ 0 by rw [ha0]; decide), show ct_at r s p = a by omega]
      · obtain ⟨a, rfl⟩ : ∃ z, a = z + 1 := ⟨a - 1, by omega⟩
        have e1 : nI (40 * g) + nI (a + 1) - 1 = nI (40 * g + a) := by
          rw [nI_add]
          exact pk_sub (a := 40 * g + (a + 1)) (b := 1) (by omega)
        rw [if_neg (show ¬ nI (a + 1) ≤ 0 from nI_ge (a := 0) (by omega) (by omega)), e1, if_pos (inb_nI (by omega) (by decide)), clampI (by omega), hJ a (by omega), pk_m1]
        by_cases hat : ct_at r s p = a + 1
        · rw [if_pos ((lg_cmp_lt _ _).mpr ((lM_lt (hr a (by omega)) hs).mpr (hlt a (by omega)))), hat]
        · rw [if_neg (fun q => by have := (lM_lt (hr a (by omega)) hs).mp ((lg_cmp_lt _ _).mp q); have := hge a (by omega) (by omega); omega)]
          exact ih a (by omega) (by omega) (by omega)
  have h0 : fX0_insert n (nI g) (lN (r s)) I J = fX0_insert_46 n (nI g) (lN (r s)) (nI (40 * g)) (nI p.1) (nI (ct_at r s p)) I J := by
    unfold fX0_insert
    have e40 : nI g * 40 = nI (40 * g) := by rw [show (40 : Int32) = nI 40 from rfl, pk_mul, Nat.mul_comm]
    simp only [lt, inb_nI hg (by decide), if_true, clampI (show g < 2 ^ 31 by omega), h8, e40]
    exact scan n p.1 hle (Nat.le_refl _) (by omega)
  rw [h0]
  unfold fX0_insert_46 ct_ent
  by_cases hk : ct_at r s p < p.1 ∧ p.2 (ct_at r s p) = s
  · rw [if_pos (Or.inl hk), if_neg (nI_ge hk.1 (by omega)), nI_add, if_pos (inb_nI (by omega) (by decide)), clampI (by omega), hJ _ hk.1, hk.2, if_pos ((lg_cmp_eq _ _).mpr rfl)]
    unfold fX0_insert_73
    rw [if_neg (by decide), upM_id h8]
    exact ⟨J, rfl, hJ, fun _ _ _ => rfl⟩
  have h72 : (if nI p.1 ≤ nI (ct_at r s p) then fX0_insert_72 n (nI g) (lN (r s)) (nI (40 * g)) (nI p.1) (nI (ct_at r s p)) I J else if inb (nI (40 * g) + nI (ct_at r s p)) 1280 = true then if lg_cmp (J 10 (nI (40 * g) + nI (ct_at r s p)).toNatClampNeg) (lN (r s)) = 0 then fX0_insert_73 n (nI g) (lN (r s)) (nI (40 * g)) (nI p.1) (nI (ct_at r s p)) 1 I J else fX0_insert_72 n (nI g) (lN (r s)) (nI (40 * g)) (nI p.1) (nI (ct_at r s p)) I J else none) = fX0_insert_73 n (nI g) (lN (r s)) (nI (40 * g)) (nI p.1) (nI (ct_at r s p)) 0 I J := by
    by_cases hc : p.1 ≤ ct_at r s p
    · rw [if_pos (nI_le hc (by omega))]
      rfl
    · rw [if_neg (nI_ge (by omega) (by omega)), nI_add, if_pos (inb_nI (by omega) (by decide)), clampI (by omega), hJ _ (by omega), if_neg (fun q => hk ⟨by omega, hinj (ct_at r s p) (by omega) ((lM_eq (hr (ct_at r s p) (by omega)) hs).mp ((lg_cmp_eq _ _).mp q))⟩)]
      rfl
  rw [h72]
  unfold fX0_insert_73
  rw [if_pos rfl]
  by_cases h40 : 40 ≤ ct_at r s p
  · rw [if_neg (show ¬ nI (ct_at r s p) < (40 : Int32) from nI_nlt (b := 40) (by omega) (by omega)), if_pos (Or.inr h40), upM_id h8]
    exact ⟨J, rfl, hJ, fun _ _ _ => rfl⟩
  rw [if_pos (show nI (ct_at r s p) < (40 : Int32) from nI_lt (b := 40) (by omega) (by decide)), if_neg (show ¬ ((ct_at r s p < p.1 ∧ p.2 (ct_at r s p) = s) ∨ 40 ≤ ct_at r s p) from fun q => q.elim hk h40)]
  have emin : (if (39 : Int32) < nI p.1 then (39 : Int32) else nI p.1) = nI (min p.1 39) := by
    by_cases q : p.1 ≤ 39
    · rw [if_neg (show ¬ (39 : Int32) < nI p.1 from nI_nlt (a := 39) q (by decide)), Nat.min_eq_left q]
    · rw [if_pos (show (39 : Int32) < nI p.1 from nI_lt (a := 39) (by omega) (by omega)), Nat.min_eq_right (by omega)]
      rfl
  simp only [lt, emin]
  have hs0 : shJ J g (min p.1 39) (min p.1 39) = J := by
    funext a b
    exact if_neg (fun q => by omega)
  have hsh := ins_sh n (a := ct_at r s p) (l := min p.1 39) hg (by omega) (lN (r s)) I J n (min p.1 39) (by omega) (Nat.le_refl _) (by omega)
  rw [hs0] at hsh
  rw [hsh]
  refine ⟨_, rfl, fun i hi => ?_, fun a b hab => ?_⟩
  · have hi' : i < min p.1 39 + 1 := hi
    show upN _ 10 (40 * g + ct_at r s p) (lN (r s)) 10 (40 * g + i) = lN (r (if i < ct_at r s p then p.2 i else if i = ct_at r s p then s else p.2 (i - 1)))
    rw [upN_get, if_pos rfl]
    by_cases i1 : i < ct_at r s p
    · rw [if_neg (by omega), if_pos i1]
      unfold shJ
      rw [if_neg (fun q => by omega)]
      exact hJ i (by omega)
    · by_cases i2 : i = ct_at r s p
      · rw [if_pos (by omega), if_neg i1, if_pos i2]
      · rw [if_neg (by omega), if_neg i1, if_neg i2]
        unfold shJ
        rw [if_pos ⟨rfl, by omega, by omega⟩, show 40 * g + i - 1 = 40 * g + (i - 1) by omega]
        exact hJ (i - 1) (by omega)
  · rw [upN_get]
    by_cases ha : a = 10
    · rw [if_pos ha, if_neg (by omega)]
      unfold shJ
      rw [if_neg (fun q => by omega)]
    · rw [if_neg ha]
      unfold shJ
      rw [if_neg (fun q => ha q.1)]
