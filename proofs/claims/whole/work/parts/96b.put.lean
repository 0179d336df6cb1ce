/-! set: the class puts its things -/
def acc (cap : Nat → Nat) : Nat → Nat
  | 0 => 0
  | t + 1 => acc cap t + cap t
theorem acc_mono (cap : Nat → Nat) {a : Nat} : ∀ t, a ≤ t → acc cap a ≤ acc cap t := by
  intro t
  induction t with
  | zero => intro h; rw [show a = 0 by omega]; exact Nat.le_refl _
  | succ t ih =>
    intro h
    by_cases e : a = t + 1
    · rw [e]; exact Nat.le_refl _
    · have := ih (by omega)
      show _ ≤ acc cap t + cap t
      omega
/-- thing j goes to tile t -/
def isPl (cap : Nat → Nat) (t j : Nat) : Prop := acc cap t ≤ j ∧ j < acc cap (t + 1)
theorem isPl_u {cap : Nat → Nat} {t s j : Nat} (h1 : isPl cap t j) (h2 : isPl cap s j) : t = s := by
  rcases Nat.lt_trichotomy t s with h | h | h
  · have := acc_mono cap (a := t + 1) s (by omega)
    have := h1.2
    have := h2.1
    omega
  · exact h
  · have := acc_mono cap (a := s + 1) t (by omega)
    have := h2.2
    have := h1.1
    omega
theorem isPl_ex (cap : Nat → Nat) (j : Nat) : ∀ T, j < acc cap T → ∃ t, t < T ∧ isPl cap t j := by
  intro T
  induction T with
  | zero => intro h; exact absurd h (Nat.not_lt_zero _)
  | succ T ih =>
    intro h
    by_cases q : j < acc cap T
    · obtain ⟨t, h1, h2⟩ := ih q
      exact ⟨t, by omega, h2⟩
    · exact ⟨T, by omega, by omega, h⟩
/-- how many of the first things are in a tile -/
theorem cnt_pl {P : Nat → Bool} {cap : Nat → Nat} {τ : Nat → Nat} {c : Nat} (hτ : ∀ i, i < c → P i = true → isPl cap (τ i) (ct_cnt P i)) (t : Nat) : ∀ k, k ≤ c → tCnt P τ k t = min (ct_cnt P k) (acc cap (t + 1)) - min (ct_cnt P k) (acc cap t) := by
  intro k
  induction k with
  | zero =>
    intro _
    have z : ct_cnt P 0 = 0 := rfl
    have y : tCnt P τ 0 t = 0 := rfl
    rw [z, y]
    omega
  | succ k ih =>
    intro hk
    have ih' := ih (by omega)
    have e1 : ct_cnt P (k + 1) = if P k = true then ct_cnt P k + 1 else ct_cnt P k := rfl
    have e2 : tCnt P τ (k + 1) t = if (P k && decide (τ k = t)) = true then tCnt P τ k t + 1 else tCnt P τ k t := rfl
    have hm := acc_mono cap (a := t) (t + 1) (by omega)
    by_cases hP : P k = true
    · have hp := hτ k (by omega) hP
      rw [if_pos hP] at e1
      by_cases ht : τ k = t
      · rw [if_pos (by simp [hP, ht])] at e2
        rw [ht] at hp
        have q1 := hp.1
        have q2 := hp.2
        rw [e1, e2, ih']
        omega
      · rw [if_neg (by simp [ht])] at e2
        have hn : ¬ isPl cap t (ct_cnt P k) := fun q => ht (isPl_u hp q)
        have hn' : ¬ (acc cap t ≤ ct_cnt P k ∧ ct_cnt P k < acc cap (t + 1)) := hn
        rw [e1, e2, ih']
        omega
    · rw [if_neg hP] at e1
      rw [if_neg (by simp [hP])] at e2
      rw [e1, e2, ih']
theorem put_in (n : Nat) {c t N : Nat} {P : Nat → Bool} {cap : Nat → Nat} {τ : Nat → Nat} (hc : c ≤ 32) (ht : t < 36) (hN : N = ct_cnt P c) (hcap : cap t ≤ 4) (hτ : ∀ i, i < c → P i = true → isPl cap (τ i) (ct_cnt P i)) (k20 : Int32 → Int32 → MI → MJ → Option M2) (J : MJ) (I0 : MI) (h22 : I0 22 1 = nI N) (h23 : ∀ i, i < c → P i = true → I0 23 (ct_cnt P i) = nI i) (hat : ∀ x, x < N → ∃ i, i < c ∧ P i = true ∧ ct_cnt P i = x) : ∀ d k x I, k = d → x + d = min (acc cap t) N + cap t → min (acc cap t) N ≤ x → x ≤ N → (∀ a, a ≠ 24 → a ≠ 25 → I a = I0 a) → (∀ b, b ≠ t → I 25 b = I0 25 b) → I 25 t = nI (x - min (acc cap t) N) → (∀ i, i < c → P i = true → ct_cnt P i < x → I 24 i = nI (τ i)) → (∀ i, ¬ (i < c ∧ P i = true) → I 24 i = I0 24 i) → ∀ q, d < q → ∃ I', lX5_putAll_35 n k20 q (nI x) (nI t) (nI k) I J = k20 (nI (min (acc cap (t + 1)) N)) (nI (t + 1)) I' J ∧ (∀ a, a ≠ 24 → a ≠ 25 → I' a = I0 a) ∧ (∀ b, b ≠ t → I' 25 b = I0 25 b) ∧ I' 25 t = nI (min N (acc cap (t + 1)) - min N (acc cap t)) ∧ (∀ i, i < c → P i = true → ct_cnt P i < min (acc cap (t + 1)) N → I' 24 i = nI (τ i)) ∧ (∀ i, ¬ (i < c ∧ P i = true) → I' 24 i = I0 24 i) := by
  have ea : acc cap (t + 1) = acc cap t + cap t := rfl
  have hNc := ct_cnt_le P c
  intro d
  induction d with
  | zero =>
    intro k x I hk hx hx0 hxN f1 f2 f3 f4 f5 q hq
    obtain ⟨q, rfl⟩ : ∃ z, q = z + 1 := ⟨q - 1, by omega⟩
    subst hk
    have exx : x = min (acc cap (t + 1)) N := by omega
    refine ⟨I, ?_, f1, f2, ?_, ?_, f5⟩
    · have e : lX5_putAll_35 n k20 (q + 1) (nI x) (nI t) (nI 0) I J = fX5_putAll_35 n k20 (lX5_putAll_35 n k20 q) (nI x) (nI t) (nI 0) I J := rfl
      rw [e]
      unfold fX5_putAll_35 fX5_putAll_79
      rw [if_pos (by decide), nI_1, exx]
    · rw [f3]
      congr 1
      omega
    · rw [← exx]; exact f4
  | succ d ih =>
    intro k x I hk hx hx0 hxN f1 f2 f3 f4 f5 q hq
    obtain ⟨q, rfl⟩ : ∃ z, q = z + 1 := ⟨q - 1, by omega⟩
    subst hk
    have e : lX5_putAll_35 n k20 (q + 1) (nI x) (nI t) (nI (d + 1)) I J = fX5_putAll_35 n k20 (lX5_putAll_35 n k20 q) (nI x) (nI t) (nI (d + 1)) I J := rfl
    rw [e]
    unfold fX5_putAll_35 fX5_putAll_79
    rw [if_neg (show ¬ nI (d + 1) ≤ (0 : Int32) from nI_ge (a := 0) (by omega) (by omega)), f1 22 (by decide) (by decide), h22]
    by_cases hxe : x = N
    · rw [if_pos (nI_le (by omega) (by omega)), nI_1]
      have exx : min (acc cap (t + 1)) N = N := by omega
      refine ⟨I, by rw [exx, hxe], f1, f2, ?_, ?_, f5⟩
      · rw [f3]
        congr 1
        omega
      · rw [exx, ← hxe]; exact f4
    obtain ⟨i, hi, hPi, hcx⟩ := hat x (by omega)
    have hpl : τ i = t := by
      refine isPl_u (hτ i hi hPi) ?_
      rw [hcx]
      exact ⟨by omega, by omega⟩
    have h23i : I 23 x = nI i := by rw [f1 23 (by decide) (by decide), ← hcx]; exact h23 i hi hPi
    rw [if_neg (nI_ge (by omega) (by omega)), if_pos (inb_nI (by omega) (by decide)), clampI (by omega), h23i, if_pos (inb_nI (by omega) (by decide)), clampI (by omega)]
    simp only [lt]
    rw [if_pos (inb_nI ht (by decide)), if_pos (inb_nI ht (by decide)), clampI (by omega), upM_ne 25 (by decide), f3, nI_1, nI_1, pk_m1]
    refine ih d (x + 1) _ rfl (by omega) (by omega) (by omega) (fun a q1 q2 => ?_) (fun b q1 => ?_) ?_ (fun i' hi' hP' hlt => ?_) (fun i' hi' => ?_) q (by omega)
    · rw [upM_ne a q2, upM_ne a q1]; exact f1 a q1 q2
    · rw [upM_get, if_pos rfl, if_neg q1, upM_ne 25 (by decide)]; exact f2 b q1
    · rw [upM_get, if_pos rfl, if_pos rfl]
      congr 1
      omega
    · rw [upM_ne 24 (by decide), upM_get, if_pos rfl]
      by_cases hii : i' = i
      · rw [if_pos hii, hii, hpl]
      · rw [if_neg hii]
        refine f4 i' hi' hP' ?_
        by_cases hlx : ct_cnt P i' < x
        · exact hlx
        · exfalso
          have e0 : ct_cnt P i' = ct_cnt P i := by omega
          have st : ∀ y, P y = true → ct_cnt P (y + 1) = ct_cnt P y + 1 := fun y hy => by
            show (if P y = true then ct_cnt P y + 1 else ct_cnt P y) = _
            rw [if_pos hy]
          rcases Nat.lt_trichotomy i' i with z | z | z
          · have h1 := ct_cnt_mono P (a := i' + 1) i (by omega)
            have h2 := st i' hP'
            omega
          · exact hii z
          · have h1 := ct_cnt_mono P (a := i + 1) i' (by omega)
            have h2 := st i hPi
            omega
    · rw [upM_ne 24 (by decide), upM_get, if_pos rfl, if_neg (fun z => hi' (by rw [z]; exact ⟨hi, hPi⟩))]
      exact f5 i' hi'
