/-! set: room and counts -/
theorem pop_cnt (x : Nat) : ∀ k, ct_pop k x = ct_cnt (fun t => x.testBit t) k := by
  intro k
  induction k with
  | zero => rfl
  | succ k ih =>
    show (if x.testBit k = true then ct_pop k x + 1 else ct_pop k x) = (if x.testBit k = true then ct_cnt (fun t => x.testBit t) k + 1 else ct_cnt (fun t => x.testBit t) k)
    rw [ih]
theorem cnt_ext {P : Nat → Bool} {a : Nat} : ∀ k, a ≤ k → (∀ i, a ≤ i → i < k → P i = false) → ct_cnt P k = ct_cnt P a := by
  intro k
  induction k with
  | zero => intro h _; rw [show a = 0 by omega]
  | succ k ih =>
    intro h hz
    by_cases e : a = k + 1
    · rw [e]
    · show (if P k = true then ct_cnt P k + 1 else ct_cnt P k) = _
      rw [hz k (by omega) (by omega), if_neg (by decide)]
      exact ih (by omega) (fun i h1 h2 => hz i h1 (by omega))
theorem acc_eq {cap : Nat → Nat} {br : Nat → Bool} {r T : Nat} (h : ∀ t, t < T → cap t = if br t = true then 0 else r) : ∀ t, t ≤ T → acc cap t = (t - ct_cnt br t) * r := by
  intro t
  induction t with
  | zero => intro _; rw [Nat.zero_sub, Nat.zero_mul]; rfl
  | succ t ih =>
    intro ht
    have ih' := ih (by omega)
    have hc := h t (by omega)
    have hl := ct_cnt_le br t
    show acc cap t + cap t = (t + 1 - (if br t = true then ct_cnt br t + 1 else ct_cnt br t)) * r
    rw [ih', hc]
    by_cases q : br t = true
    · rw [if_pos q, if_pos q, Nat.add_zero, Nat.add_sub_add_right]
    · rw [if_neg q, if_neg q, Nat.succ_sub hl, Nat.succ_mul]
theorem roomInAll_eq (n : Nat) {T r : Nat} {cap : Nat → Nat} (hT : T ≤ 36) (hr : r ≤ 4) (I : MI) (J : MJ) (h16 : I 16 1 = nI T) (h168 : I 16 8 = nI r) (hbl : ∀ t, t < 64 → bl (J 16 9) t = decide (t < 36 ∧ I 60 t = 1)) (hz : ∀ t, T ≤ t → t < 36 → I 60 t = 0) (hcap : ∀ t, t < T → cap t = if decide (I 60 t = 1) = true then 0 else r) : fX2_roomInAll n I J = some (nI (acc cap T), I, J) := by
  obtain ⟨x, hx, ex⟩ := wb_of (J 16 9)
  have hpop : ct_pop 64 x = ct_cnt (fun t => decide (I 60 t = 1)) T := by
    rw [pop_cnt]
    have e1 : ct_cnt (fun t => x.testBit t) 64 = ct_cnt (fun t => decide (t < 36 ∧ I 60 t = 1)) 64 := ct_cnt_congr 64 (fun t ht => by rw [← hbl t ht, ex, bl_n ht])
    rw [e1, cnt_ext (a := T) 64 (by omega) (fun i h1 h2 => decide_eq_false (fun q => by have := hz i h1 q.1; rw [this] at q; exact absurd q.2 (by decide)))]
    exact ct_cnt_congr T (fun t ht => decide_eq_decide.mpr ⟨fun q => q.2, fun q => ⟨by omega, q⟩⟩)
  have hb := bitCount_eq n hx I J
  unfold fX2_roomInAll
  rw [ex, hb]
  simp only [Option.bind_some]
  rw [hpop, h16, h168, pk_sub (ct_cnt_le _ T), pk_mul, acc_eq hcap T (Nat.le_refl _)]
theorem all_loop (n : Nat) {T r : Nat} {cap : Nat → Nat} (hT : T ≤ 36) (I : MI) (J : MJ) (hTT : I 44 24 * I 44 25 = nI T) (h26 : I 44 26 = nI r) (hcap : ∀ t, t < T → cap t = if I 60 t = 0 then r else 0) : ∀ q t, t ≤ T → T < q + t → lX10_set_18 n q (nI (acc cap t)) (nI t) I J = Option.bind (fX10_things n I J) (fun r54 => (if r54.1 ≤ nI (acc cap T) then lX10_set_69 n n 0 r54.2.1 r54.2.2 else Option.bind (fX10_no n (-8 : Int32) r54.2.1 r54.2.2) (fun r63 => some (r63.1, r63.2.1, r63.2.2)))) := by
  intro q
  induction q with
  | zero => intro t h1 h2; omega
  | succ q ih =>
    intro t h1 h2
    have e : ∀ a b, lX10_set_18 n (q + 1) a b I J = fX10_set_18 n (lX10_set_18 n q) a b I J := fun _ _ => rfl
    rw [e]
    unfold fX10_set_18 fX10_set_44
    rw [tiles_eq]
    simp only [Option.bind_some, hTT]
    by_cases ht : t = T
    · subst ht
      rw [if_pos (Int32.le_refl _)]
    rw [if_neg (nI_ge (by omega) (by omega)), if_pos (inb_nI (by omega) (by decide)), clampI (by omega), nI_1, h26]
    simp only [lt]
    have ih' := ih (t + 1) (by omega) (by omega)
    have ea : acc cap (t + 1) = acc cap t + cap t := rfl
    have hc := hcap t (by omega)
    by_cases h60 : I 60 t = 0
    · rw [if_pos h60] at hc
      rw [if_pos h60, nI_add, ← hc, ← ea]
      exact ih'
    · rw [if_neg h60] at hc
      have e0 : nI (acc cap t) + 0 = nI (acc cap (t + 1)) := by rw [ea, hc]; exact Int32.add_zero _
      rw [if_neg h60, e0]
      exact ih'
theorem things_cnt {c : Nat} {I : MI} {W : Nat → Bool} (h45 : ∀ i, i < c → I 45 i = I 2 i) (hs : ∀ i, i < c → I 2 i = 0 ∨ I 2 i = 1 ∨ I 2 i = 2) (hW : ∀ i, i < c → W i = true → I 2 i = 2) (h55 : ∀ i, i < c → I 55 i = if W i = true then 1 else 0) : ∀ k, k ≤ c → ct_cnt (fun i => decide (I 2 i = 0)) k + ct_cnt (fun i => decide (I 2 i = 1)) k + ct_cnt W k = tn I k := by
  intro k
  induction k with
  | zero => intro _; rfl
  | succ k ih =>
    intro hk
    have ih' := ih (by omega)
    have e0 : ct_cnt (fun i => decide (I 2 i = 0)) (k + 1) = if decide (I 2 k = 0) = true then ct_cnt (fun i => decide (I 2 i = 0)) k + 1 else ct_cnt (fun i => decide (I 2 i = 0)) k := rfl
    have e1 : ct_cnt (fun i => decide (I 2 i = 1)) (k + 1) = if decide (I 2 k = 1) = true then ct_cnt (fun i => decide (I 2 i = 1)) k + 1 else ct_cnt (fun i => decide (I 2 i = 1)) k := rfl
    have e2 : ct_cnt W (k + 1) = if W k = true then ct_cnt W k + 1 else ct_cnt W k := rfl
    have e3 := tn_s I k
    have hw := hW k (by omega)
    have q55 := h55 k (by omega)
    have q45 := h45 k (by omega)
    rcases hs k (by omega) with h | h | h
    · have hwf : ¬ W k = true := fun z => absurd (h.symm.trans (hw z)) (by decide)
      have hth : thg I k := Or.inl (by rw [q45, h]; decide)
      rw [if_pos (decide_eq_true h)] at e0
      rw [if_neg (by rw [h]; decide)] at e1
      rw [if_neg hwf] at e2
      rw [if_pos (decide_eq_true hth)] at e3
      omega
    · have hwf : ¬ W k = true := fun z => absurd (h.symm.trans (hw z)) (by decide)
      have hth : thg I k := Or.inl (by rw [q45, h]; decide)
      rw [if_neg (by rw [h]; decide)] at e0
      rw [if_pos (decide_eq_true h)] at e1
      rw [if_neg hwf] at e2
      rw [if_pos (decide_eq_true hth)] at e3
      omega
    · rw [if_neg (by rw [h]; decide)] at e0 e1
      by_cases z : W k = true
      · have hth : thg I k := Or.inr (by rw [q55, if_pos z]; decide)
        rw [if_pos z] at e2
        rw [if_pos (decide_eq_true hth)] at e3
        omega
      · have hth : ¬ thg I k := fun y => y.elim (fun p => p (by rw [q45]; exact h)) (fun p => p (by rw [q55, if_neg z]))
        rw [if_neg z] at e2
        rw [if_neg (fun y => hth (of_decide_eq_true y))] at e3
        omega
