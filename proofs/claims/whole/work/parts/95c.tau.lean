/-! smooth -/
def tCnt (P : Nat → Bool) (τ : Nat → Nat) (c t : Nat) : Nat := ct_cnt (fun i => P i && decide (τ i = t)) c
theorem tCnt_swp {P : Nat → Bool} {τ : Nat → Nat} {a b c : Nat} (ha : a < c) (hb : b < c) (hPa : P a = true) (hPb : P b = true) (t : Nat) : tCnt P (swp τ a b) c t = tCnt P τ c t := by
  unfold tCnt
  by_cases hab : a = b
  · refine ct_cnt_congr c (fun i _ => ?_)
    have : swp τ a b i = τ i := by
      unfold swp
      by_cases q : i = b
      · rw [if_pos q, q, hab]
      · rw [if_neg q, if_neg (by rw [hab]; exact q)]
    rw [this]
  · refine cnt_sw ha hb hab ?_ ?_ (fun i _ q1 q2 => ?_)
    · have : swp τ a b a = τ b := by unfold swp; rw [if_neg hab, if_pos rfl]
      rw [this, hPa, hPb]
    · have : swp τ a b b = τ a := by unfold swp; rw [if_pos rfl]
      rw [this, hPa, hPb]
    · have : swp τ a b i = τ i := by unfold swp; rw [if_neg q2, if_neg q1]
      rw [this]
/-- things stand at other tiles on both sides, as many in each -/
theorem Inv_tau {m c : Nat} {I I' : MI} {J : MJ} {τ τ' : Nat → Nat} (hc : c ≤ 32) (h6 : I 44 6 = nI c) (hτ : ∀ u, u < c → thg I u → I 61 u = nI (τ u) ∧ τ u < 36) (hτ' : ∀ u, u < c → thg I u → τ' u < 36 ∧ nI (τ' u) < I 16 1) (hcnt : ∀ t, tCnt (thB I) τ' c t = tCnt (thB I) τ c t) (h : ∀ x, x ≠ 24 → x ≠ 28 → x ≠ 34 → x ≠ 44 → x ≠ 61 → I' x = I x) (h24 : ∀ u, u < c → thg I u → I' 24 u = nI (τ' u)) (h24' : ∀ u, u < c → ¬ thg I u → I' 24 u = I 24 u) (h61 : ∀ u, u < c → thg I u → I' 61 u = nI (τ' u)) (h28 : I' 28 0 = 0) (h34 : I' 34 0 = 0) (h44 : ∀ j, j ≠ 13 → j ≠ 14 → I' 44 j = I 44 j) (z : I' 44 13 = 0 ∧ I' 44 14 = 0) (h12 : I 44 12 = 1) (hI : Inv (m + 1) I J) : Inv m I' J := by
  obtain ⟨pr, pq, pf, c', ni, nk, no, pn, ⟨pu, pg, pw, pp, pfr, pe⟩⟩ := id hI
  have hc'' := pn.1.1
  obtain rfl : c' = c := (nI_eq (by omega) (by omega)).mp (pn.2.1.2.1.symm.trans h6)
  have e : ∀ (l : List Nat), (∀ x ∈ l, x ≠ 24 ∧ x ≠ 28 ∧ x ≠ 34 ∧ x ≠ 44 ∧ x ≠ 61) → ∀ x ∈ l, I' x = I x := fun l hl x hx => h x (hl x hx).1 (hl x hx).2.1 (hl x hx).2.2.1 (hl x hx).2.2.2.1 (hl x hx).2.2.2.2
  have e22 := e [22] (by decide) 22 (by decide)
  have f22 : I 22 0 = 1 := by rw [pf.1.2.1]; exact h12
  obtain ⟨s1, s2, s3, s4, s5, s6⟩ := pe.2.2.1 h12
  have et : ∀ i, thg I' i ↔ thg I i := by
    intro i
    unfold thg
    rw [e [45] (by decide) 45 (by decide), e [55] (by decide) 55 (by decide)]
  have etn : ∀ k, tn I' k = tn I k := fun k => ct_cnt_congr k (fun i _ => decide_eq_decide.mpr (et i))
  have ef : feeds I' = feeds I := by
    funext u f
    unfold feeds
    rw [e [45] (by decide) 45 (by decide), e [46] (by decide) 46 (by decide), e [55] (by decide) 55 (by decide), e [56] (by decide) 56 (by decide), e [57] (by decide) 57 (by decide)]
  refine Inv_set (fun x q1 q2 q3 q4 => h x (by omega) (by omega) q2 q3 q4) (by rw [e22]; exact f22) h28 h34 (fun j q1 q2 q3 => h44 j q2 q3) ⟨by rw [h44 12 (by decide) (by decide)]; exact h12, z.1, z.2⟩ (pf.2.2.1 h12) (fun c2 hc2 h62 => ?_) hI
  obtain rfl : c2 = c' := (nI_eq (by omega) (by omega)).mp (h62.symm.trans h6)
  refine ⟨fun _ i hi => ⟨fun hth => ?_, fun hth => ?_⟩, fun _ => ⟨?_, fun i hi hth => ?_, fun i hi hth => ?_, fun t ht => ?_, fun u hu f hf => ?_, fun f hf u hu => ?_⟩⟩
  · have hth' := (et i).mp hth
    exact ⟨by rw [h24 i hi hth', h61 i hi hth'], τ' i, (hτ' i hi hth').1, h61 i hi hth'⟩
  · have hn' : ¬ thg I i := fun q => hth ((et i).mpr q)
    rw [h24' i hi hn']
    exact (pp h12 i hi).2 hn'
  · rw [e22, etn]; exact s1
  · rw [e [23] (by decide) 23 (by decide), etn]; exact s2 i hi ((et i).mp hth)
  · have hth' := (et i).mp hth
    exact ⟨τ' i, (hτ' i hi hth').1, h61 i hi hth', by rw [e [16] (by decide) 16 (by decide)]; exact (hτ' i hi hth').2⟩
  · have f1 : ld I' c2 t = tCnt (thB I) τ' c2 t := by
      refine ct_cnt_congr c2 (fun i hi => ?_)
      by_cases hth : thg I i
      · rw [show thB I i = true from decide_eq_true hth, Bool.true_and]
        refine decide_eq_decide.mpr ⟨fun q => ?_, fun q => ⟨(et i).mpr hth, by rw [h61 i hi hth, q]⟩⟩
        have := q.2
        rw [h61 i hi hth] at this
        exact (nI_eq (by have := (hτ' i hi hth).1; omega) (by omega)).mp this
      · rw [show thB I i = false from decide_eq_false hth, Bool.false_and, decide_eq_false (fun q => hth ((et i).mp q.1))]
    have f2 : ld I c2 t = tCnt (thB I) τ c2 t := by
      refine ct_cnt_congr c2 (fun i hi => ?_)
      by_cases hth : thg I i
      · rw [show thB I i = true from decide_eq_true hth, Bool.true_and]
        refine decide_eq_decide.mpr ⟨fun q => ?_, fun q => ⟨hth, by rw [(hτ i hi hth).1, q]⟩⟩
        have := q.2
        rw [(hτ i hi hth).1] at this
        exact (nI_eq (by have := (hτ i hi hth).2; omega) (by omega)).mp this
      · rw [show thB I i = false from decide_eq_false hth, Bool.false_and, decide_eq_false (fun q => hth q.1)]
    rw [e [25] (by decide) 25 (by decide), f1, hcnt t, ← f2]
    exact s4 t ht
  · rw [e [26] (by decide) 26 (by decide), ef]; exact s5 u hu f hf
  · rw [e [27] (by decide) 27 (by decide), ef]; exact s6 f hf u hu
