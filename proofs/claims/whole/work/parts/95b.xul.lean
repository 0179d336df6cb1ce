/-! smooth: one try of the class -/
theorem isCo_le {P : Nat → Prop} {w v : Nat} (h : ∀ t, P t → t < 36) (hv : isCo P w v) : v ≤ 72 := by
  obtain ⟨L, R, T, B, a1, a2, a3, a4, a5⟩ := hv
  obtain ⟨t, t1, t2⟩ := a2.1
  obtain ⟨s, s1, s2⟩ := a4.1
  have := h t t1
  have := h s s1
  have := Nat.mod_le t w
  have := Nat.div_le_self s w
  dsimp only at t2 s2
  omega
theorem sum_le {P : Nat → Bool} {v : Nat → Nat} : ∀ k, (∀ i, i < k → P i = true → v i ≤ 72) → ct_sum P v k ≤ 72 * k := by
  intro k
  induction k with
  | zero => intro _; exact Nat.le_refl _
  | succ k ih =>
    intro h
    have h1 := ih (fun i hi => h i (by omega))
    show (if P k = true then ct_sum P v k + v k else ct_sum P v k) ≤ _
    by_cases q : P k = true
    · have := h k (by omega) q
      rw [if_pos q]; omega
    · rw [if_neg q]; omega
theorem clP_swp {c w N a b : Nat} {P : Nat → Bool} {F : Nat → Nat → Prop} {τ : Nat → Nat} {C : MI} (ha : a < c) (hb : b < c) (hPa : P a = true) (hPb : P b = true) (hp : clP c w N P F τ C) : clP c w N P F (swp τ a b) (upM (upM C 24 a (C 24 b)) 24 b (C 24 a)) := by
  obtain ⟨l1, l2, l3, l4, l5⟩ := hp
  have u : ∀ x, x ≠ 24 → upM (upM C 24 a (C 24 b)) 24 b (C 24 a) x = C x := fun x hx => by rw [upM_ne x hx, upM_ne x hx]
  refine ⟨by rw [u 22 (by decide)]; exact l1, by rw [u 23 (by decide)]; exact l2, by rw [u 27 (by decide)]; exact l3, fun z hz hP => ?_, ?_⟩
  · rw [upM_get, if_pos rfl, upM_get, if_pos rfl]
    unfold swp
    by_cases q1 : z = b
    · rw [if_pos q1, if_pos q1]; exact l4 a ha hPa
    · by_cases q2 : z = a
      · rw [if_neg q1, if_neg q1, if_pos q2, if_pos q2]; exact l4 b hb hPb
      · rw [if_neg q1, if_neg q1, if_neg q2, if_neg q2]; exact l4 z hz hP
  · unfold colOk
    rw [u 17 (by decide), u 18 (by decide)]
    exact l5
theorem xch_back (C : MI) (a b : Nat) : upM (upM (upM (upM C 24 a (C 24 b)) 24 b (C 24 a)) 24 a (upM (upM C 24 a (C 24 b)) 24 b (C 24 a) 24 b)) 24 b (upM (upM C 24 a (C 24 b)) 24 b (C 24 a) 24 a) = C := by
  funext x y
  simp only [upM_get]
  by_cases hx : x = 24
  · subst hx
    by_cases hab : a = b
    · subst hab
      by_cases q : y = a <;> simp [q]
    · have hba : ¬ b = a := fun z => hab z.symm
      by_cases q1 : y = b
      · simp [q1, hba, hab]
      · by_cases q2 : y = a
        · simp [q2, hab]
        · simp [q1, q2]
  · simp [hx]
theorem xul_ok (n : Nat) (hn : 2400 < n) {c w N a b : Nat} (hc : c ≤ 32) (hN : N ≤ 36) {P : Nat → Bool} {F : Nat → Nat → Prop} {τ : Nat → Nat} {C : MI} {J : MJ} (ha : a < c) (hb : b < c) (hPa : P a = true) (hPb : P b = true) (hp : clP c w N P F τ C) (hF : ∀ u i, u < c → F u i → P u = true) (hF' : ∀ u f, u < c → f < 32 → F u f → f < c ∧ P f = true) (h26 : ∀ u, u < c → ∀ f, f < 32 → (bt (C 26 u) f = true ↔ F u f)) {v v' : Nat → Nat} (hv : ∀ i, i < c → P i = true → isCo (wt c F τ i) w (v i)) (hv' : ∀ i, i < c → P i = true → isCo (wt c F (swp τ a b) i) w (v' i)) : fX5_exchangeUnlessLonger n (nI a) (nI b) C J = some (if ct_sum P v' c ≤ ct_sum P v c then 1 else 0, if ct_sum P v' c ≤ ct_sum P v c then upM (upM C 24 a (C 24 b)) 24 b (C 24 a) else C, J) := by
  have hp' := clP_swp ha hb hPa hPb hp
  generalize hX : (((1 : Int32) <<< (nI a &&& 31)) ||| ((1 : Int32) <<< (nI b &&& 31)) ||| C 26 a ||| C 26 b) = X
  have hbt : ∀ i, i < 32 → (bt X i = true ↔ i = a ∨ i = b ∨ F a i ∨ F b i) := by
    intro i hi
    rw [← hX, b_or, b_or, b_or, bt_sh (by omega) hi, bt_sh (by omega) hi]
    simp only [Bool.or_eq_true, decide_eq_true_eq, h26 a ha i hi, h26 b hb i hi]
    constructor
    · rintro (((q | q) | q) | q)
      · exact Or.inl q
      · exact Or.inr (Or.inl q)
      · exact Or.inr (Or.inr (Or.inl q))
      · exact Or.inr (Or.inr (Or.inr q))
    · rintro (q | q | q | q)
      · exact Or.inl (Or.inl (Or.inl q))
      · exact Or.inl (Or.inl (Or.inr q))
      · exact Or.inl (Or.inr q)
      · exact Or.inr q
  have hin : ∀ i, i < 32 → bt X i = true → i < c ∧ P i = true := by
    intro i hi q
    rcases (hbt i hi).mp q with q | q | q | q
    · rw [q]; exact ⟨ha, hPa⟩
    · rw [q]; exact ⟨hb, hPb⟩
    · exact hF' a i ha hi q
    · exact hF' b i hb hi q
  have span : ∀ {τ₁ : Nat → Nat} {D : MI} {u : Nat → Nat}, clP c w N P F τ₁ D → (∀ i, i < c → P i = true → isCo (wt c F τ₁ i) w (u i)) → ∀ i, i < 32 → bt X i = true → fX5_spanOf n (nI i) D J = some (nI (u i), D, J) := by
    intro τ₁ D u hpD hu i hi q
    obtain ⟨hic, hPi⟩ := hin i hi q
    obtain ⟨h22, h23, h27, h24, hcol⟩ := hpD
    obtain ⟨z, z1, z2⟩ := spanC_ok n hn hc hi hN (F := F) (τ := τ₁) (J := J) hcol (h27 i hi) (fun y hy hf => h24 y hy (hF y i hy hf)) (h24 i hic hPi)
    rw [z1, isCo_u (fun t => Iff.rfl) z2 (hu i hic hPi)]
  have part : ∀ u : Nat → Nat, ct_sum (fun i => bt X i) u 32 = ct_sum (fun i => P i && bt X i) u c := by
    intro u
    rw [sum_ext (P := fun i => bt X i) (v := u) (a := c) 32 hc (fun i h1 h2 => by
      cases q : bt X i with
      | false => rfl
      | true => have := (hin i h2 q).1; omega)]
    refine sum_congr c (fun i hi => ⟨?_, fun _ => rfl⟩)
    cases q : bt X i with
    | false => simp
    | true => simp [(hin i (by omega) q).2]
  have rest : ct_sum (fun i => P i && !bt X i) v c = ct_sum (fun i => P i && !bt X i) v' c := by
    refine sum_congr c (fun i hi => ⟨rfl, fun q => ?_⟩)
    simp only [Bool.and_eq_true, Bool.not_eq_true'] at q
    obtain ⟨q1, q2⟩ := q
    have hnot : ¬ (i = a ∨ i = b ∨ F a i ∨ F b i) := fun z => by rw [(hbt i (by omega)).mpr z] at q2; cases q2
    refine isCo_u (fun t => ?_) (hv i hi q1) (hv' i hi q1)
    have same : ∀ y, y ≠ a → y ≠ b → swp τ a b y = τ y := fun y h1 h2 => by unfold swp; rw [if_neg h2, if_neg h1]
    unfold wt
    rw [same i (fun z => hnot (Or.inl z)) (fun z => hnot (Or.inr (Or.inl z)))]
    have us : ∀ y, F y i → swp τ a b y = τ y := fun y hy => same y (fun z => hnot (Or.inr (Or.inr (Or.inl (by rw [← z]; exact hy))))) (fun z => hnot (Or.inr (Or.inr (Or.inr (by rw [← z]; exact hy)))))
    constructor
    · rintro (z | ⟨y, y1, y2, y3⟩)
      · exact Or.inl z
      · exact Or.inr ⟨y, y1, y2, by rw [us y y2]; exact y3⟩
    · rintro (z | ⟨y, y1, y2, y3⟩)
      · exact Or.inl z
      · exact Or.inr ⟨y, y1, y2, by rw [← us y y2]; exact y3⟩
  have s1 := sum_split P (fun i => bt X i) v c
  have s2 := sum_split P (fun i => bt X i) v' c
  have lim : ∀ {τ₁ : Nat → Nat} {D : MI} {u : Nat → Nat}, clP c w N P F τ₁ D → (∀ i, i < c → P i = true → isCo (wt c F τ₁ i) w (u i)) → ct_sum P u c ≤ 72 * c := by
    intro τ₁ D u hpD hu
    refine sum_le c (fun i hi hPi => isCo_le (fun t ht => ?_) (hu i hi hPi))
    rcases ht with z | ⟨y, y1, y2, y3⟩
    · have := (hpD.2.2.2.1 i hi hPi).2; omega
    · have := (hpD.2.2.2.1 y y1 (hF y i y1 y2)).2; omega
  have m1 := lim hp hv
  have m2 := lim hp' hv'
  unfold fX5_exchangeUnlessLonger
  rw [if_pos (inb_nI (by omega) (by decide)), if_pos (inb_nI (by omega) (by decide)), clampI (by omega), clampI (by omega)]
  simp only [lt]
  rw [hX, someC n hn (span hp hv)]
  simp only [Option.bind_some]
  rw [exchange_eq n (by omega) (by omega)]
  simp only [Option.bind_some]
  rw [someC n hn (span hp' hv')]
  simp only [Option.bind_some]
  rw [part, part]
  generalize ct_sum (fun i => P i && bt X i) v c = A at *
  generalize ct_sum (fun i => P i && bt X i) v' c = A' at *
  by_cases hle : ct_sum P v' c ≤ ct_sum P v c
  · rw [if_pos hle, if_pos hle, if_pos (nI_le (by omega) (by omega))]
  · rw [if_neg hle, if_neg hle, if_neg (nI_ge (by omega) (by omega)), exchange_eq n (by omega) (by omega)]
    simp only [Option.bind_some]
    rw [xch_back]
