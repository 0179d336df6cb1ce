/-! places that change -/
theorem Inv_set {m : Nat} {I I' : MI} {J : MJ} (h : ∀ a, (a < 22 ∨ 28 < a) → a ≠ 34 → a ≠ 44 → a ≠ 61 → I' a = I a) (h22 : I' 22 0 = 1) (h28 : I' 28 0 = 0) (h34 : I' 34 0 = 0) (h44 : ∀ j, j ≠ 12 → j ≠ 13 → j ≠ 14 → I' 44 j = I 44 j) (z : I' 44 12 = 1 ∧ I' 44 13 = 0 ∧ I' 44 14 = 0) (h11 : I 44 11 = 1) (hp : ∀ c, c ≤ 32 → I 44 6 = nI c → PP c I' ∧ PS c I') (hI : Inv (m + 1) I J) : Inv m I' J := by
  obtain ⟨pr, pq, pf, c, ni, nk, no, pn, ⟨pu, pg, pw, pp, pfr, pe⟩⟩ := hI
  obtain ⟨z1, z2, z3⟩ := z
  obtain ⟨hpp, hps⟩ := hp c pn.1.1 pn.2.1.2.1
  have e : ∀ (l : List Nat), (∀ a ∈ l, (a < 22 ∨ 28 < a) ∧ a ≠ 34 ∧ a ≠ 44 ∧ a ≠ 61) → ∀ a ∈ l, I' a = I a := fun l hl a ha => h a (hl a ha).1 (hl a ha).2.1 (hl a ha).2.2.1 (hl a ha).2.2.2
  have e4 : ∀ (l : List Nat), (∀ j ∈ l, j ≠ 12 ∧ j ≠ 13 ∧ j ≠ 14) → ∀ j ∈ l, I' 44 j = I 44 j := fun l hl j hj => h44 j (hl j hj).1 (hl j hj).2.1 (hl j hj).2.2
  have e11 := e [11] (by decide) 11 (by decide)
  refine ⟨PR_fr (e _ (by decide)) pr, PQ_fr (e _ (by decide)) (h44 48 (by decide) (by decide) (by decide)) pq, ?_, c, ni, nk, no, PN_fr (e _ (by decide)) (e4 _ (by decide)) pn, ?_, PG_fr (e _ (by decide)) (e4 _ (by decide)) rfl pg, PW_0 z2, hpp, PF_0 z3, PK_fr (e _ (by decide)) (h44 15 (by decide) (by decide) (by decide)) rfl pe.1, PT_fr (e _ (by decide)) (by rw [e11]) (by rw [e11]) (h44 11 (by decide) (by decide) (by decide)) pe.2.1, hps, ⟨PB_0 z3, PL_0 z2⟩, PC_fr (e [1] (by decide) 1 (by decide)) (e [2] (by decide) 2 (by decide)) pe.2.2.2.2⟩
  · unfold Pf
    rw [z1, z2, z3, h22, h28, h34, e11, h44 11 (by decide) (by decide) (by decide)]
    exact ⟨⟨pf.1.1, rfl, rfl, rfl⟩, ⟨pf.2.1.1, Or.inr rfl, Or.inl rfl, Or.inl rfl⟩, fun _ => h11, fun q => absurd q (by decide), fun q => absurd q (by decide)⟩
  · obtain ⟨u1, u2, u3, u4, u5, u6, u7⟩ := PU_dec pu
    unfold PU
    rw [h34, h44 42 (by decide) (by decide) (by decide), h44 43 (by decide) (by decide) (by decide), h44 45 (by decide) (by decide) (by decide), e [2] (by decide) 2 (by decide), e [38] (by decide) 38 (by decide), e [39] (by decide) 39 (by decide), e [40] (by decide) 40 (by decide), e [71] (by decide) 71 (by decide), e [72] (by decide) 72 (by decide)]
    exact ⟨u1, u2, u3, fun _ q => absurd q (by decide), u5, u6, u7⟩
theorem cnt_rm (P : Nat → Bool) (a : Nat) : ∀ c, a < c → ct_cnt P c = ct_cnt (fun i => P i && !decide (i = a)) c + (if P a = true then 1 else 0) := by
  have z : ∀ c, c ≤ a → ct_cnt (fun i => P i && !decide (i = a)) c = ct_cnt P c := fun c hc => ct_cnt_congr c (fun i hi => by simp [show ¬ i = a by omega])
  intro c
  induction c with
  | zero => intro h; omega
  | succ c ih =>
    intro h
    show (if P c = true then ct_cnt P c + 1 else ct_cnt P c) = (if (P c && !decide (c = a)) = true then ct_cnt (fun i => P i && !decide (i = a)) c + 1 else ct_cnt (fun i => P i && !decide (i = a)) c) + (if P a = true then 1 else 0)
    by_cases e : c = a
    · subst e
      rw [z c (Nat.le_refl _)]
      simp
      split <;> omega
    · have := ih (by omega)
      simp [e]
      rw [this]
      by_cases q : P c = true
      · rw [if_pos q, if_pos q]; omega
      · rw [if_neg q, if_neg q]
/-- a count doesn't ask who is who -/
theorem cnt_sw {P Q : Nat → Bool} {a b c : Nat} (ha : a < c) (hb : b < c) (hab : a ≠ b) (h1 : Q a = P b) (h2 : Q b = P a) (h : ∀ i, i < c → i ≠ a → i ≠ b → Q i = P i) : ct_cnt Q c = ct_cnt P c := by
  rw [cnt_rm P a c ha, cnt_rm Q a c ha, cnt_rm (fun i => P i && !decide (i = a)) b c hb, cnt_rm (fun i => Q i && !decide (i = a)) b c hb]
  have e : ct_cnt (fun i => (Q i && !decide (i = a)) && !decide (i = b)) c = ct_cnt (fun i => (P i && !decide (i = a)) && !decide (i = b)) c := by
    refine ct_cnt_congr c (fun i hi => ?_)
    by_cases q1 : i = a
    · simp [q1]
    · by_cases q2 : i = b
      · simp [q2]
      · rw [h i hi q1 q2]
  rw [e, h1]
  simp [Ne.symm hab, h2]
  omega
theorem exchange_eq (n : Nat) {a b : Nat} (ha : a < 32) (hb : b < 32) (I : MI) (J : MJ) : fX5_exchange n (nI a) (nI b) I J = some (upM (upM I 24 a (I 24 b)) 24 b (I 24 a), J) := by
  unfold fX5_exchange
  simp only [lt, inb_nI ha (show (32 : Nat) < 2 ^ 31 by decide), inb_nI hb (show (32 : Nat) < 2 ^ 31 by decide), if_true, clampI (show a < 2 ^ 31 by omega), clampI (show b < 2 ^ 31 by omega)]
theorem swaps_eq (n : Nat) {a b : Nat} (ha : a < 32) (hb : b < 32) (I : MI) (J : MJ) : fX10_swaps n (nI a) (nI b) I J = some (upM (upM I 61 a (I 61 b)) 61 b (I 61 a), J) := by
  unfold fX10_swaps
  simp only [lt, inb_nI ha (show (32 : Nat) < 2 ^ 31 by decide), inb_nI hb (show (32 : Nat) < 2 ^ 31 by decide), if_true, clampI (show a < 2 ^ 31 by omega), clampI (show b < 2 ^ 31 by omega)]
def swp (τ : Nat → Nat) (a b u : Nat) : Nat := if u = b then τ a else if u = a then τ b else τ u
/-- two things have changed tiles on both sides -/
theorem Inv_swp {m c a b : Nat} {I I' : MI} {J : MJ} {τ : Nat → Nat} (hc : c ≤ 32) (h6 : I 44 6 = nI c) (ha : a < c) (hb : b < c) (hta : thg I a) (htb : thg I b) (hτ : ∀ u, u < c → thg I u → I 61 u = nI (τ u) ∧ I 24 u = nI (τ u) ∧ τ u < 36 ∧ nI (τ u) < I 16 1) (h : ∀ x, x ≠ 24 → x ≠ 28 → x ≠ 34 → x ≠ 44 → x ≠ 61 → I' x = I x) (h24 : ∀ u, I' 24 u = if u = b then I 24 a else if u = a then I 24 b else I 24 u) (h61 : ∀ u, I' 61 u = if u = b then I 61 a else if u = a then I 61 b else I 61 u) (h28 : I' 28 0 = 0) (h34 : I' 34 0 = 0) (h44 : ∀ j, j ≠ 13 → j ≠ 14 → I' 44 j = I 44 j) (z : I' 44 13 = 0 ∧ I' 44 14 = 0) (h12 : I 44 12 = 1) (hI : Inv (m + 1) I J) : Inv m I' J := by
  obtain ⟨pr, pq, pf, c', ni, nk, no, pn, ⟨pu, pg, pw, pp, pfr, pe⟩⟩ := id hI
  have hc'' := pn.1.1
  obtain rfl : c' = c := (nI_eq (by omega) (by omega)).mp (pn.2.1.2.1.symm.trans h6)
  have e : ∀ (l : List Nat), (∀ x ∈ l, x ≠ 24 ∧ x ≠ 28 ∧ x ≠ 34 ∧ x ≠ 44 ∧ x ≠ 61) → ∀ x ∈ l, I' x = I x := fun l hl x hx => h x (hl x hx).1 (hl x hx).2.1 (hl x hx).2.2.1 (hl x hx).2.2.2.1 (hl x hx).2.2.2.2
  have e22 := e [22] (by decide) 22 (by decide)
  have f22 : I 22 0 = 1 := by rw [pf.1.2.1]; exact h12
  obtain ⟨s1, s2, s3, s4, s5, s6⟩ := pe.2.2.1 h12
  have et : ∀ i, thg I' i ↔ thg I i := by
    intro i
    unfold thg
    rw [e [45] (by decide) 45 (by decide), e [55] (by decide) 55 (by decide)]
  have etn : ∀ k, tn I' k = tn I k := fun k => ct_cnt_congr k (fun i _ => decide_eq_decide.mpr (et i))
  have ef : feeds I' = feeds I := by
    funext u f
    unfold feeds
    rw [e [45] (by decide) 45 (by decide), e [46] (by decide) 46 (by decide), e [55] (by decide) 55 (by decide), e [56] (by decide) 56 (by decide), e [57] (by decide) 57 (by decide)]
  have nt : ∀ u, u < c' → thg I u → ∃ t, t < 36 ∧ I' 61 u = nI t ∧ nI t < I 16 1 ∧ I' 24 u = I' 61 u := by
    intro u hu hth
    rw [h61, h24]
    by_cases q1 : u = b
    · rw [if_pos q1, if_pos q1]
      obtain ⟨y1, y2, y3, y4⟩ := hτ a ha hta
      exact ⟨τ a, y3, y1, y4, by rw [y1, y2]⟩
    · by_cases q2 : u = a
      · rw [if_neg q1, if_neg q1, if_pos q2, if_pos q2]
        obtain ⟨y1, y2, y3, y4⟩ := hτ b hb htb
        exact ⟨τ b, y3, y1, y4, by rw [y1, y2]⟩
      · rw [if_neg q1, if_neg q1, if_neg q2, if_neg q2]
        obtain ⟨y1, y2, y3, y4⟩ := hτ u hu hth
        exact ⟨τ u, y3, y1, y4, by rw [y1, y2]⟩
  refine Inv_set (fun x q1 q2 q3 q4 => h x (by omega) (by omega) q2 q3 q4) (by rw [e22]; exact f22) h28 h34 (fun j q1 q2 q3 => h44 j q2 q3) ⟨by rw [h44 12 (by decide) (by decide)]; exact h12, z.1, z.2⟩ (pf.2.2.1 h12) (fun c2 hc2 h62 => ?_) hI
  obtain rfl : c2 = c' := (nI_eq (by omega) (by omega)).mp (h62.symm.trans h6)
  refine ⟨fun _ i hi => ⟨fun hth => ?_, fun hth => ?_⟩, fun _ => ⟨?_, fun i hi hth => ?_, fun i hi hth => ?_, fun t ht => ?_, fun u hu f hf => ?_, fun f hf u hu => ?_⟩⟩
  · obtain ⟨t, y1, y2, y3, y4⟩ := nt i hi ((et i).mp hth)
    exact ⟨y4, t, y1, y2⟩
  · have hn' : ¬ thg I i := fun q => hth ((et i).mpr q)
    rw [h24, if_neg (fun q => hn' (by rw [q]; exact htb)), if_neg (fun q => hn' (by rw [q]; exact hta))]
    exact (pp h12 i hi).2 hn'
  · rw [e22, etn]; exact s1
  · rw [e [23] (by decide) 23 (by decide), etn]; exact s2 i hi ((et i).mp hth)
  · obtain ⟨t, y1, y2, y3, y4⟩ := nt i hi ((et i).mp hth)
    exact ⟨t, y1, y2, by rw [e [16] (by decide) 16 (by decide)]; exact y3⟩
  · have eld : ld I' c2 t = ld I c2 t := by
      unfold ld
      by_cases hab : a = b
      · refine ct_cnt_congr c2 (fun i hi => decide_eq_decide.mpr ?_)
        rw [et i, h61]
        by_cases q : i = b
        · rw [if_pos q, q, hab]
        · rw [if_neg q, if_neg (by rw [hab]; exact q)]
      · refine cnt_sw ha hb hab (decide_eq_decide.mpr ?_) (decide_eq_decide.mpr ?_) (fun i hi q1 q2 => decide_eq_decide.mpr ?_)
        · rw [et a, h61, if_neg hab, if_pos rfl]
          exact ⟨fun q => ⟨htb, q.2⟩, fun q => ⟨hta, q.2⟩⟩
        · rw [et b, h61, if_pos rfl]
          exact ⟨fun q => ⟨hta, q.2⟩, fun q => ⟨htb, q.2⟩⟩
        · rw [et i, h61, if_neg q2, if_neg q1]
    rw [e [25] (by decide) 25 (by decide), eld]
    exact s4 t ht
  · rw [e [26] (by decide) 26 (by decide), ef]; exact s5 u hu f hf
  · rw [e [27] (by decide) 27 (by decide), ef]; exact s6 f hf u hu
