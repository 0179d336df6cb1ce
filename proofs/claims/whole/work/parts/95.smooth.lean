/-! smooth: sums over some wires, the k-th thing, numbers from the seed -/
theorem sum_split (P Q : Nat → Bool) (v : Nat → Nat) : ∀ k, ct_sum P v k = ct_sum (fun i => P i && Q i) v k + ct_sum (fun i => P i && !Q i) v k := by
  intro k
  induction k with
  | zero => rfl
  | succ k ih =>
    show (if P k = true then ct_sum P v k + v k else ct_sum P v k) = (if (P k && Q k) = true then ct_sum (fun i => P i && Q i) v k + v k else ct_sum (fun i => P i && Q i) v k) + (if (P k && !Q k) = true then ct_sum (fun i => P i && !Q i) v k + v k else ct_sum (fun i => P i && !Q i) v k)
    rw [ih]
    cases P k <;> cases Q k <;> simp <;> omega
theorem sum_congr {P Q : Nat → Bool} {v u : Nat → Nat} : ∀ k, (∀ i, i < k → P i = Q i ∧ (P i = true → v i = u i)) → ct_sum P v k = ct_sum Q u k := by
  intro k
  induction k with
  | zero => intro _; rfl
  | succ k ih =>
    intro h
    show (if P k = true then ct_sum P v k + v k else ct_sum P v k) = (if Q k = true then ct_sum Q u k + u k else ct_sum Q u k)
    obtain ⟨h1, h2⟩ := h k (by omega)
    rw [ih (fun i hi => h i (by omega)), ← h1]
    by_cases q : P k = true
    · rw [if_pos q, if_pos q, h2 q]
    · rw [if_neg q, if_neg q]
theorem sum_ext {P : Nat → Bool} {v : Nat → Nat} {a : Nat} : ∀ k, a ≤ k → (∀ i, a ≤ i → i < k → P i = false) → ct_sum P v k = ct_sum P v a := by
  intro k
  induction k with
  | zero => intro h _; rw [show a = 0 by omega]
  | succ k ih =>
    intro h hz
    by_cases e : a = k + 1
    · rw [e]
    · show (if P k = true then ct_sum P v k + v k else ct_sum P v k) = _
      rw [hz k (by omega) (by omega), if_neg (by decide)]
      exact ih (by omega) (fun i h1 h2 => hz i h1 (by omega))
theorem someC (n : Nat) (hn : 2400 < n) {x : Int32} {v : Nat → Nat} {I : MI} {J : MJ} (hv : ∀ i, i < 32 → bt x i = true → fX5_spanOf n (nI i) I J = some (nI (v i), I, J)) : fX5_spanOfSome n x I J = some (nI (ct_sum (fun i => bt x i) v 32), I, J) := by
  have l : ∀ N, N = 32 → ∀ q k, k ≤ N → N < q + k → lX5_spanOfSome_5 n q x (nI (ct_sum (fun i => bt x i) v k)) (nI k) I J = some (nI (ct_sum (fun i => bt x i) v N), I, J) := by
    intro N hN q
    induction q with
    | zero => intro k h1 h2; omega
    | succ q ih =>
      intro k h1 h2
      have e : ∀ a b, lX5_spanOfSome_5 n (q + 1) x a b I J = fX5_spanOfSome_5 n (lX5_spanOfSome_5 n q) x a b I J := fun _ _ => rfl
      rw [e]
      unfold fX5_spanOfSome_5 fX5_spanOfSome_39
      by_cases hk : k = N
      · rw [if_pos (show (32 : Int32) ≤ nI k from nI_le (a := 32) (by omega) (by omega)), hk]
      rw [if_neg (show ¬ (32 : Int32) ≤ nI k from nI_ge (b := 32) (by omega) (by decide))]
      by_cases hz : ushrI x (nI k) = 0
      · rw [if_pos hz, sum_ext (P := fun i => bt x i) (v := v) (a := k) N (by omega) (fun i h3 h4 => ushrI_z (by omega) hz i h3 (by omega))]
      rw [if_neg hz, hasBit_eq n _ (by omega), bl_wide _ (by omega), nI_1]
      simp only [Option.bind_some]
      have ih' := ih (k + 1) (by omega) (by omega)
      have e2 : ct_sum (fun i => bt x i) v (k + 1) = if bt x k = true then ct_sum (fun i => bt x i) v k + v k else ct_sum (fun i => bt x i) v k := rfl
      by_cases hb : bt x k = true
      · rw [if_pos hb] at e2
        rw [b2_t hb, if_neg (by decide), hv k (by omega) hb]
        simp only [Option.bind_some, lt]
        rw [nI_add, ← e2]
        exact ih'
      · rw [if_neg hb] at e2
        rw [b2_f hb, if_pos rfl, ← e2]
        exact ih'
  exact l 32 rfl n 0 (Nat.zero_le _) (by omega)
/-- the k-th thing by cells -/
theorem thingAt_eq (n : Nat) (hn : 2400 < n) {c i : Nat} (hc : c ≤ 32) (I : MI) (J : MJ) (h6 : I 44 6 = nI c) (hi : i < c) (ht : thg I i) : fX10_thingAt n (nI (tn I i)) I J = some (nI i, I, J) := by
  have l : ∀ q k, k ≤ i → i < q + k → lX10_thingAt_4 n q (nI (tn I i - tn I k)) (nI k) I J = some (nI i, I, J) := by
    intro q
    induction q with
    | zero => intro k h1 h2; omega
    | succ q ih =>
      intro k h1 h2
      have e : ∀ a b, lX10_thingAt_4 n (q + 1) a b I J = fX10_thingAt_4 n (lX10_thingAt_4 n q) a b I J := fun _ _ => rfl
      have hm := tn_mono I (a := k) i h1
      have hl := tn_le I i
      rw [e]
      unfold fX10_thingAt_4 fX10_thingAt_32
      rw [h6, if_neg (nI_ge (by omega) (by omega)), isThing_eq n (by omega), nI_1]
      simp only [Option.bind_some]
      by_cases hk : k = i
      · subst hk
        rw [b2_t ht, if_neg (by decide), Nat.sub_self, if_pos (by decide)]
      have hs := tn_s I k
      have hm1 := tn_mono I (a := k + 1) i (by omega)
      have ih' := ih (k + 1) (by omega) (by omega)
      by_cases hth : thg I k
      · rw [if_pos (decide_eq_true hth)] at hs
        obtain ⟨z, hz⟩ : ∃ z, tn I i - tn I k = z + 1 := ⟨tn I i - tn I k - 1, by omega⟩
        rw [b2_t hth, if_neg (by decide), hz, if_neg (show ¬ nI (z + 1) = 0 from nI_ne0 (by omega) (by omega)), pk_m1]
        rw [show tn I i - tn I (k + 1) = z by omega] at ih'
        exact ih'
      · rw [if_neg (fun q => hth (of_decide_eq_true q))] at hs
        rw [b2_f hth, if_pos rfl]
        rw [hs] at ih'
        exact ih'
  have := l n 0 (Nat.zero_le _) (by omega)
  rw [show tn I 0 = 0 from rfl, Nat.sub_zero] at this
  exact this
theorem tn_at (I : MI) : ∀ k j, j < tn I k → ∃ i, i < k ∧ thg I i ∧ tn I i = j := by
  intro k
  induction k with
  | zero => intro j h; exact absurd h (Nat.not_lt_zero _)
  | succ k ih =>
    intro j h
    rw [tn_s] at h
    by_cases hb : thB I k = true
    · rw [if_pos hb] at h
      by_cases e : j = tn I k
      · exact ⟨k, by omega, of_decide_eq_true hb, e.symm⟩
      · obtain ⟨i, h1, h2, h3⟩ := ih j (by omega)
        exact ⟨i, by omega, h2, h3⟩
    · rw [if_neg hb] at h
      obtain ⟨i, h1, h2, h3⟩ := ih j h
      exact ⟨i, by omega, h2, h3⟩
/-- 31 bits of the seed, modulo how many things there are, on both sides -/
theorem seed_mod (v : Int64) {N : Nat} (h1 : 1 ≤ N) (h2 : N ≤ 32) : ∃ k, k < N ∧ (ushrL v 33 - ushrL v 33 / (nI N).toInt64 * (nI N).toInt64).toInt32 = nI k ∧ (ushrL v 33).toInt32 - (ushrL v 33).toInt32 / nI N * nI N = nI k := by
  obtain ⟨x, hx, rfl⟩ := wb_of v
  have e1 : ushrL (lN x) 33 = lN (x / 2 ^ 33) := ushrL_n hx (k := 33) (by decide)
  have hz : x / 2 ^ 33 < 2 ^ 31 := by omega
  have e2 : (nI N).toInt64 = lN N := Int32.toInt64_ofNat' (by rw [Int32.toInt_maxValue]; omega)
  rw [e1, e2]
  generalize x / 2 ^ 33 = z at *
  have ed : lN z / lN N = lN (z / N) := by
    apply Int64.toInt_inj.mp
    rw [lg_ldiv_nonneg (by rw [pf_lI (by omega)]; omega) (by rw [pf_lI (by omega)]; omega), pf_lI (by omega), pf_lI (by omega), pf_lI (by have := Nat.div_le_self z N; omega)]
    rfl
  have hdm : z / N * N ≤ z := Nat.div_mul_le_self z N
  have hmod : z - z / N * N = z % N := by
    have := Nat.div_add_mod z N
    rw [Nat.mul_comm] at this
    omega
  refine ⟨z % N, Nat.mod_lt _ (by omega), ?_, ?_⟩
  · rw [ed, lN_mul, lN_sub hdm, hmod, lN_i]
  · rw [lN_i, pk_div (by omega) (by omega) (by omega), pk_mul, pk_sub hdm, hmod]
