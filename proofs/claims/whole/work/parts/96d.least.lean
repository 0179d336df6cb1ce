/-! set: the reference's least tile with room -/
theorem least_in (n : Nat) (hn : 2400 < n) {c i r T : Nat} {cap τ : Nat → Nat} (hc : c ≤ 32) (hi : i < c) (hT : T ≤ 36) (hr : r ≤ 4) (M : MI) (J : MJ) (hti : thB M i = true) (hτ : ∀ z, z < c → thB M z = true → isPl cap (τ z) (tn M z) ∧ τ z < T) (h61 : ∀ z, z < i → thg M z → M 61 z = nI (τ z)) (h26 : M 44 26 = nI r) (hcap : ∀ t, t < T → cap t = if M 60 t = 0 then r else 0) (k69 : Int32 → MI → MJ → Option (Int32 × M2)) : ∀ d t, t + d = τ i → ∀ q, d < q → lX10_set_90 n k69 q (nI i) (nI t) M J = k69 (nI (i + 1)) (upM M 61 i (nI (τ i))) J := by
  have hpi := hτ i hi hti
  have hcnt : ∀ t, t < T → ct_cnt (fun z => decide (thg M z ∧ M 61 z = nI t)) i = min (tn M i) (acc cap (t + 1)) - min (tn M i) (acc cap t) := by
    intro t ht
    have h1 : ct_cnt (fun z => decide (thg M z ∧ M 61 z = nI t)) i = tCnt (thB M) τ i t := by
      refine ct_cnt_congr i (fun z hz => ?_)
      by_cases hth : thg M z
      · have hz36 := (hτ z (by omega) (decide_eq_true hth)).2
        rw [show thB M z = true from decide_eq_true hth, Bool.true_and]
        refine decide_eq_decide.mpr ⟨fun q => ?_, fun q => ⟨hth, by rw [h61 z hz hth, q]⟩⟩
        have := q.2
        rw [h61 z hz hth] at this
        exact (nI_eq (by omega) (by omega)).mp this
      · rw [show thB M z = false from decide_eq_false hth, Bool.false_and, decide_eq_false (fun q => hth q.1)]
    rw [h1]
    exact cnt_pl (P := thB M) (c := i) (fun z hz hP => (hτ z (by omega) hP).1) t i (Nat.le_refl _)
  intro d
  induction d with
  | zero =>
    intro t ht q hq
    obtain ⟨q, rfl⟩ : ∃ z, q = z + 1 := ⟨q - 1, by omega⟩
    obtain rfl : t = τ i := by omega
    have e : lX10_set_90 n k69 (q + 1) (nI i) (nI (τ i)) M J = fX10_set_90 n k69 (lX10_set_90 n k69 q) (nI i) (nI (τ i)) M J := rfl
    rw [e]
    have q1 := hpi.1.1
    have q2 := hpi.1.2
    have ea : acc cap (τ i + 1) = acc cap (τ i) + cap (τ i) := rfl
    have hcp := hcap (τ i) hpi.2
    have h60 : M 60 (τ i) = 0 := by
      by_cases z : M 60 (τ i) = 0
      · exact z
      · rw [if_neg z] at hcp; omega
    rw [if_pos h60] at hcp
    unfold fX10_set_90 fX10_set_112
    rw [roomLeft_eq n hn (by omega) (show τ i < 36 by omega) M J, if_pos h60, h26, hcnt (τ i) hpi.2]
    simp only [Option.bind_some]
    rw [pk_sub (by omega), if_neg (nI_ne0 (by omega) (by omega)), if_pos (inb_nI (by omega) (by decide)), clampI (by omega), nI_1]
    rfl
  | succ d ih =>
    intro t ht q hq
    obtain ⟨q, rfl⟩ : ∃ z, q = z + 1 := ⟨q - 1, by omega⟩
    have e : lX10_set_90 n k69 (q + 1) (nI i) (nI t) M J = fX10_set_90 n k69 (lX10_set_90 n k69 q) (nI i) (nI t) M J := rfl
    rw [e]
    have hT' := hpi.2
    have q1 := hpi.1.1
    have hm := acc_mono cap (a := t + 1) (τ i) (by omega)
    have ea : acc cap (t + 1) = acc cap t + cap t := rfl
    have hcp := hcap t (by omega)
    unfold fX10_set_90
    rw [roomLeft_eq n hn (by omega) (show t < 36 by omega) M J, h26, hcnt t (by omega)]
    simp only [Option.bind_some]
    have hz : (if M 60 t = 0 then nI r - nI (min (tn M i) (acc cap (t + 1)) - min (tn M i) (acc cap t)) else (0 : Int32)) = 0 := by
      by_cases h60 : M 60 t = 0
      · rw [if_pos h60] at hcp ⊢
        rw [pk_sub (by omega), show r - (min (tn M i) (acc cap (t + 1)) - min (tn M i) (acc cap t)) = 0 by omega]
        rfl
      · rw [if_neg h60]
    rw [if_pos hz, nI_1]
    exact ih (t + 1) (by omega) q (by omega)
theorem least_all (n : Nat) (hn : 2400 < n) {c r T : Nat} {cap τ : Nat → Nat} (hc : c ≤ 32) (hT : T ≤ 36) (hr : r ≤ 4) (M0 : MI) (J : MJ) (h6 : M0 44 6 = nI c) (hτ : ∀ z, z < c → thB M0 z = true → isPl cap (τ z) (tn M0 z) ∧ τ z < T) (h26 : M0 44 26 = nI r) (hcap : ∀ t, t < T → cap t = if M0 60 t = 0 then r else 0) : ∀ q k M, k ≤ c → c < q + k → (∀ a, a ≠ 61 → M a = M0 a) → (∀ z, z < k → thg M0 z → M 61 z = nI (τ z)) → ∃ M', lX10_set_69 n q (nI k) M J = some (nI (tn M0 c), upM (upM (upM M' 44 12 1) 44 13 0) 44 14 0, J) ∧ (∀ a, a ≠ 61 → M' a = M0 a) ∧ ∀ z, z < c → thg M0 z → M' 61 z = nI (τ z) := by
  intro q
  induction q with
  | zero => intro k M h1 h2; omega
  | succ q ih =>
    intro k M h1 h2 f1 f2
    have e : lX10_set_69 n (q + 1) (nI k) M J = fX10_set_69 n (lX10_set_69 n q) (nI k) M J := rfl
    rw [e]
    have M44 := f1 44 (by decide)
    have M45 := f1 45 (by decide)
    have M55 := f1 55 (by decide)
    have Mth : ∀ i, thg M i ↔ thg M0 i := fun i => by unfold thg; rw [M45, M55]
    have MthB : thB M = thB M0 := by funext i; exact decide_eq_decide.mpr (Mth i)
    have Mtn : ∀ k, tn M k = tn M0 k := fun k => ct_cnt_congr k (fun i _ => decide_eq_decide.mpr (Mth i))
    by_cases hk : k = c
    · subst hk
      refine ⟨M, ?_, f1, f2⟩
      unfold fX10_set_69
      rw [M44, h6, if_pos (Int32.le_refl _)]
      simp only [lt]
      rw [moved_eq]
      simp only [Option.bind_some]
      generalize hQ : upM (upM (upM M 44 12 1) 44 13 0) 44 14 0 = Q
      have Qx : ∀ a, a ≠ 44 → Q a = M a := fun a ha => by rw [← hQ, upM_ne a ha, upM_ne a ha, upM_ne a ha]
      have Q6 : Q 44 6 = nI k := by rw [← hQ]; simp [upM_get]; rw [M44]; exact h6
      have Qtn : tn Q k = tn M0 k := ct_cnt_congr k (fun i _ => decide_eq_decide.mpr (by unfold thg; rw [Qx 45 (by decide), Qx 55 (by decide), M45, M55]))
      rw [things_eq n hn hc Q J Q6, Qtn]
      rfl
    have hkc : k < c := by omega
    unfold fX10_set_69 fX10_set_112
    rw [M44, h6, if_neg (nI_ge (by omega) (by omega)), isThing_eq n (by omega), nI_1]
    simp only [Option.bind_some]
    by_cases hth : thg M k
    · rw [b2_t hth, if_neg (by decide)]
      have hin := least_in n hn (i := k) (cap := cap) (τ := τ) hc hkc hT hr M J (decide_eq_true hth) (fun z hz hP => by rw [MthB] at hP; rw [Mtn]; exact hτ z hz hP) (fun z hz hz' => f2 z hz ((Mth z).mp hz')) (by rw [M44]; exact h26) (by rw [f1 60 (by decide)]; exact hcap) (lX10_set_69 n q) (τ k) 0 (by omega) n (by have := (hτ k hkc (by rw [← MthB]; exact decide_eq_true hth)).2; omega)
      have hin' : lX10_set_90 n (lX10_set_69 n q) n (nI k) 0 M J = _ := hin
      rw [hin']
      refine ih (k + 1) _ (by omega) (by omega) (fun a ha => by rw [upM_ne a ha]; exact f1 a ha) (fun z hz hz' => ?_)
      rw [upM_get, if_pos rfl]
      by_cases hzk : z = k
      · rw [if_pos hzk, hzk]
      · rw [if_neg hzk]; exact f2 z (by omega) hz'
    · rw [b2_f hth, if_pos rfl]
      refine ih (k + 1) M (by omega) (by omega) f1 (fun z hz hz' => ?_)
      by_cases hzk : z = k
      · rw [hzk] at hz'; exact absurd ((Mth k).mpr hz') hth
      · exact f2 z (by omega) hz'
