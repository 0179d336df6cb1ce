/-! ways: all wires, turn by turn -/
/-- each END of a wire is reached -/
def rcE (N M : Nat) (lo hi : Nat → Nat) (τ : Nat → Nat) (E : Nat → Int64) (H : Nat → Nat → Bool) (i : Nat) : Prop := ∀ x, x < N → bl (E i) x = true → ∃ k, rcN M lo hi H i (τ i) k x
theorem rcE_cg {N M : Nat} {lo hi τ : Nat → Nat} {E : Nat → Int64} {H H' : Nat → Nat → Bool} {i : Nat} (h : H' i = H i) (hp : rcE N M lo hi τ E H i) : rcE N M lo hi τ E H' i := by
  intro x hx hb
  obtain ⟨k, hk⟩ := hp x hx hb
  exact ⟨k, rch_mono (fun j z => ⟨z.1, by rw [h]; exact z.2⟩) k _ hk⟩
def fC (I0 : MI) (J0 : MJ) (I : MI) (J : MJ) : Prop := (∀ a, a ≠ 28 → a ≠ 29 → a ≠ 30 → a ≠ 32 → a ≠ 33 → I a = I0 a) ∧ I 28 0 = 1 ∧ ∀ a, a ≠ 31 → J a = J0 a
def fR (B0 K : MI) : Prop := (∀ a, a ≠ 44 → (a < 62 ∨ 67 < a) → K a = B0 a) ∧ (∀ j, j ≠ 13 → K 44 j = B0 44 j) ∧ K 44 13 = 1
def cL_ (I0 : MI) (J0 : MJ) (H : Nat → Nat → Bool) (ps : Nat → Nat) (I : MI) (J : MJ) : Prop := wyC I J H ∧ (∀ j, j < 60 → I 30 j = nI (ps j)) ∧ fC I0 J0 I J
def rL_ (B0 : MI) (H : Nat → Nat → Bool) (ps : Nat → Nat) (K : MI) : Prop := wyR K H ∧ (∀ j, j < 60 → K 64 j = nI (ps j)) ∧ fR B0 K
/-- what all wires stand on: the state in which the call begins -/
def ldS (n c N M : Nat) (lo hi : Nat → Nat) (w h kc : Nat) (P : Nat → Bool) (τ : Nat → Nat) (E : Nat → Int64) (I0 : MI) : Prop := c ≤ 32 ∧ gfs N M lo hi ∧ gfR n N M lo hi w h ∧ gfC N M lo hi I0 ∧ (kc ≤ 4 ∧ I0 16 0 = nI kc ∧ I0 44 24 = nI w ∧ I0 44 25 = nI h ∧ I0 44 27 = nI kc ∧ I0 44 6 = nI c) ∧ (I0 22 1 = nI (ct_cnt P c) ∧ ∀ i, i < c → P i = true → I0 23 (ct_cnt P i) = nI i) ∧ (∀ i, i < c → (P i = true ↔ thg I0 i)) ∧ (∀ i, i < c → P i = true → τ i < N ∧ I0 24 i = nI (τ i) ∧ I0 61 i = nI (τ i) ∧ (∀ x, x < 64 → bl (E i) x = true → x < N)) ∧ (∀ i, i < c → P i = true → ∀ (I' : MI) (J' : MJ), I' 24 = I0 24 → I' 27 = I0 27 → fX5_endsOf n (nI i) I' J' = some (E i, I', J')) ∧ ∀ i, i < c → P i = true → ∀ (K : MI) (J' : MJ), (∀ a ∈ [45, 46, 55, 56, 57, 61], K a = I0 a) → K 44 6 = I0 44 6 → fX10_endsOf n (nI i) K J' = some (E i, K, J')
def baseR (I0 B0 : MI) : Prop := ∀ a, a ≠ 28 → a ≠ 29 → a ≠ 30 → a ≠ 32 → a ≠ 33 → B0 a = I0 a
theorem things_ok (n : Nat) (hn : 2400 < n) {c N M w h kc : Nat} {lo hi : Nat → Nat} {P : Nat → Bool} {τ : Nat → Nat} {E : Nat → Int64} {I0 : MI} {J0 : MJ} (hS : ldS n c N M lo hi w h kc P τ E I0) {ps : Nat → Nat} (hps : ∀ j, j < 60 → ps j ≤ 1280) : ∀ d k H, k + d = c → (∀ a j, H a j = true → j < M) → ∃ H', (∀ a j, H' a j = true → j < M) ∧ (∀ a, (a < k ∨ c ≤ a ∨ ¬ P a = true) → H' a = H a) ∧ (∀ i, k ≤ i → i < c → P i = true → rcE N M lo hi τ E H' i) ∧ (∀ k32 x1 x4 I J q, d < q → cL_ I0 J0 H ps I J → ∃ I' J', lX8_leadAll_41 n k32 q x1 x4 (nI (ct_cnt P k)) I J = Option.bind (fX8_addPasts n I' J') (fun r71 => (if r71.1 = 0 then some (x4, r71.2.1, r71.2.2) else k32 x1 (x4 + (1 : Int32)) r71.2.1 r71.2.2)) ∧ cL_ I0 J0 H' ps I' J') ∧ ∀ B0, baseR I0 B0 → ∀ k101 x1 x2 K J q, d < q → rL_ B0 H ps K → ∃ K', lX10_lead_108 n k101 q x1 x2 (nI k) K J = lX10_lead_140 n k101 n x1 x2 0 0 K' J ∧ rL_ B0 H' ps K' := by
  obtain ⟨hc, hG, hR, hgC, ⟨hkc, h160, h24, h25, h27, h6⟩, ⟨h221, h23⟩, hP, hτ, hEC, hER⟩ := hS
  have hTc := ct_cnt_le P c
  intro d
  induction d with
  | zero =>
    intro k H hk hH
    obtain rfl : k = c := by omega
    refine ⟨H, hH, fun _ _ => rfl, fun i q1 q2 => by omega, fun k32 x1 x4 I J q hq hCL => ?_, fun B0 hB k101 x1 x2 K J q hq hRL => ?_⟩
    · obtain ⟨q, rfl⟩ : ∃ z, q = z + 1 := ⟨q - 1, by omega⟩
      have e : lX8_leadAll_41 n k32 (q + 1) x1 x4 (nI (ct_cnt P k)) I J = fX8_leadAll_41 n k32 (lX8_leadAll_41 n k32 q) x1 x4 (nI (ct_cnt P k)) I J := rfl
      refine ⟨I, J, ?_, hCL⟩
      rw [e]
      unfold fX8_leadAll_41
      rw [hCL.2.2.1 22 (by decide) (by decide) (by decide) (by decide) (by decide), h221, if_pos (Int32.le_refl _)]
    · obtain ⟨q, rfl⟩ : ∃ z, q = z + 1 := ⟨q - 1, by omega⟩
      have e : lX10_lead_108 n k101 (q + 1) x1 x2 (nI k) K J = fX10_lead_108 n k101 (lX10_lead_108 n k101 q) x1 x2 (nI k) K J := rfl
      refine ⟨K, ?_, hRL⟩
      rw [e]
      unfold fX10_lead_108
      rw [hRL.2.2.2.1 6 (by decide), hB 44 (by decide) (by decide) (by decide) (by decide) (by decide), h6, if_pos (Int32.le_refl _)]
  | succ d ih =>
    intro k H hk hH
    have hkc' : k < c := by omega
    have hs : ct_cnt P (k + 1) = if P k = true then ct_cnt P k + 1 else ct_cnt P k := rfl
    by_cases hPk : P k = true
    · rw [if_pos hPk] at hs
      obtain ⟨t1, t2, t3, t4⟩ := hτ k hkc' hPk
      obtain ⟨H1, w1, w2, w3, w4, w5⟩ := wire_ok n hn (i := k) (r := τ k) (kc := kc) (ps := ps) (E := E k) (H := H) hG hR (by omega) t1 hkc hps t4 hH
      obtain ⟨H', a1, a2, a3, a4, a5⟩ := ih (k + 1) H1 (by omega) w1
      have hm := ct_cnt_mono P (a := k + 1) c (by omega)
      refine ⟨H', a1, fun a ha => ?_, fun i q1 q2 hPi => ?_, fun k32 x1 x4 I J q hq hCL => ?_, fun B0 hB k101 x1 x2 K J q hq hRL => ?_⟩
      · rw [a2 a (by rcases ha with z | z | z; exact Or.inl (by omega); exact Or.inr (Or.inl z); exact Or.inr (Or.inr z))]
        refine w2 a (fun z => ?_)
        rcases ha with y | y | y
        · omega
        · omega
        · exact y (by rw [z]; exact hPk)
      · by_cases hik : i = k
        · rw [hik]
          exact rcE_cg (a2 k (Or.inl (by omega))) w3
        · exact a3 i (by omega) q2 hPi
      · obtain ⟨q, rfl⟩ : ∃ z, q = z + 1 := ⟨q - 1, by omega⟩
        have e : lX8_leadAll_41 n k32 (q + 1) x1 x4 (nI (ct_cnt P k)) I J = fX8_leadAll_41 n k32 (lX8_leadAll_41 n k32 q) x1 x4 (nI (ct_cnt P k)) I J := rfl
        obtain ⟨c1, c2, f1, f2, f3⟩ := hCL
        have fI : ∀ (l : List Nat), (∀ a ∈ l, a ≠ 28 ∧ a ≠ 29 ∧ a ≠ 30 ∧ a ≠ 32 ∧ a ≠ 33) → ∀ a ∈ l, I a = I0 a := fun l hl a ha => f1 a (hl a ha).1 (hl a ha).2.1 (hl a ha).2.2.1 (hl a ha).2.2.2.1 (hl a ha).2.2.2.2
        obtain ⟨I1, J1, z1, z2, z3, z4⟩ := w4 I J c1 (by
          refine ⟨?_, ?_, c2, ?_, fun I' J' q1 q2 => hEC k hkc' hPk I' J' (by rw [q1]; exact fI [24] (by decide) 24 (by decide)) (by rw [q2]; exact fI [27] (by decide) 27 (by decide))⟩
          · unfold gfC gfA
            rw [fI [16] (by decide) 16 (by decide), fI [19] (by decide) 19 (by decide), fI [20] (by decide) 20 (by decide), fI [21] (by decide) 21 (by decide)]
            exact hgC
          · rw [fI [16] (by decide) 16 (by decide)]; exact h160
          · rw [fI [24] (by decide) 24 (by decide)]; exact t2)
        obtain ⟨I', J', y1, y2⟩ := a4 k32 x1 x4 I1 J1 q (by omega) ⟨z2, by rw [z3 30 (by decide) (by decide) (by decide)]; exact c2, fun a q1 q2 q3 q4 q5 => by rw [z3 a q2 q4 q5]; exact f1 a q1 q2 q3 q4 q5, by rw [z3 28 (by decide) (by decide) (by decide)]; exact f2, fun a ha => by rw [z4 a ha]; exact f3 a ha⟩
        refine ⟨I', J', ?_, y2⟩
        rw [e]
        unfold fX8_leadAll_41
        rw [fI [22] (by decide) 22 (by decide), h221, if_neg (nI_ge (by omega) (by omega)), if_pos (inb_nI (by omega) (by decide)), clampI (by omega), fI [23] (by decide) 23 (by decide), h23 k hkc' hPk, z1, nI_1, ← hs]
        simp only [Option.bind_some]
        exact y1
      · obtain ⟨q, rfl⟩ : ∃ z, q = z + 1 := ⟨q - 1, by omega⟩
        have e : lX10_lead_108 n k101 (q + 1) x1 x2 (nI k) K J = fX10_lead_108 n k101 (lX10_lead_108 n k101 q) x1 x2 (nI k) K J := rfl
        obtain ⟨c1, c2, f1, f2, f3⟩ := hRL
        have b44 : B0 44 = I0 44 := hB 44 (by decide) (by decide) (by decide) (by decide) (by decide)
        have fK : ∀ (l : List Nat), (∀ a ∈ l, (a ≠ 44 ∧ (a < 62 ∨ 67 < a)) ∧ a ≠ 28 ∧ a ≠ 29 ∧ a ≠ 30 ∧ a ≠ 32 ∧ a ≠ 33) → ∀ a ∈ l, K a = I0 a := fun l hl a ha => by
          obtain ⟨⟨q0, q1⟩, q2, q3, q4, q5, q6⟩ := hl a ha
          rw [f1 a q0 q1]; exact hB a q2 q3 q4 q5 q6
        have f44 : ∀ j, j ≠ 13 → K 44 j = I0 44 j := fun j hj => by rw [f2 j hj, b44]
        obtain ⟨K1, z1, z2, z3⟩ := w5 K J c1 (by
          refine ⟨by rw [f44 24 (by decide)]; exact h24, by rw [f44 25 (by decide)]; exact h25, by rw [f44 27 (by decide)]; exact h27, c2, by rw [fK [61] (by decide) 61 (by decide)]; exact t3, fun J' => hER k hkc' hPk K J' (fK _ (by decide)) (f44 6 (by decide))⟩)
        obtain ⟨K', y1, y2⟩ := a5 B0 hB k101 x1 x2 K1 J q (by omega) ⟨z2, by rw [z3 64 (by decide) (by decide) (by decide) (by decide) (by decide)]; exact c2, fun a q1 q2 => by rw [z3 a (by omega) (by omega) (by omega) (by omega) (by omega)]; exact f1 a q1 q2, fun j hj => by rw [z3 44 (by decide) (by decide) (by decide) (by decide) (by decide)]; exact f2 j hj, by rw [z3 44 (by decide) (by decide) (by decide) (by decide) (by decide)]; exact f3⟩
        refine ⟨K', ?_, y2⟩
        have hthg : thg K k := by
          have := (hP k hkc').mp hPk
          unfold thg at this ⊢
          rw [fK [45] (by decide) 45 (by decide), fK [55] (by decide) 55 (by decide)]
          exact this
        rw [e]
        unfold fX10_lead_108 fX10_lead_129
        rw [f44 6 (by decide), h6, if_neg (nI_ge (by omega) (by omega)), isThing_eq n (by omega), b2_t hthg, nI_1]
        simp only [Option.bind_some]
        rw [if_neg (by decide), z1]
        simp only [Option.bind_some]
        exact y1
    · rw [if_neg hPk] at hs
      obtain ⟨H', a1, a2, a3, a4, a5⟩ := ih (k + 1) H (by omega) hH
      refine ⟨H', a1, fun a ha => a2 a (by rcases ha with z | z | z; exact Or.inl (by omega); exact Or.inr (Or.inl z); exact Or.inr (Or.inr z)), fun i q1 q2 hPi => ?_, fun k32 x1 x4 I J q hq hCL => ?_, fun B0 hB k101 x1 x2 K J q hq hRL => ?_⟩
      · by_cases hik : i = k
        · rw [hik] at hPi; exact absurd hPi hPk
        · exact a3 i (by omega) q2 hPi
      · obtain ⟨I', J', y1, y2⟩ := a4 k32 x1 x4 I J q (by omega) hCL
        rw [hs] at y1
        exact ⟨I', J', y1, y2⟩
      · obtain ⟨q, rfl⟩ : ∃ z, q = z + 1 := ⟨q - 1, by omega⟩
        have e : lX10_lead_108 n k101 (q + 1) x1 x2 (nI k) K J = fX10_lead_108 n k101 (lX10_lead_108 n k101 q) x1 x2 (nI k) K J := rfl
        obtain ⟨K', y1, y2⟩ := a5 B0 hB k101 x1 x2 K J q (by omega) hRL
        obtain ⟨c1, c2, f1, f2, f3⟩ := hRL
        have b44 : B0 44 = I0 44 := hB 44 (by decide) (by decide) (by decide) (by decide) (by decide)
        have hthg : ¬ thg K k := fun z => hPk ((hP k hkc').mpr (by
          unfold thg at z ⊢
          rw [f1 45 (by decide) (by decide), f1 55 (by decide) (by decide), hB 45 (by decide) (by decide) (by decide) (by decide) (by decide), hB 55 (by decide) (by decide) (by decide) (by decide) (by decide)] at z
          exact z))
        refine ⟨K', ?_, y2⟩
        rw [e]
        unfold fX10_lead_108 fX10_lead_129
        rw [f2 6 (by decide), b44, h6, if_neg (nI_ge (by omega) (by omega)), isThing_eq n (by omega), b2_f hthg, nI_1]
        simp only [Option.bind_some, if_true]
        exact y1
/-! too many on a joint -/
def mor (kc : Nat) (H : Nat → Nat → Bool) (j : Nat) : Nat := ct_cnt (fun i => H i j) 32 - kc
theorem mor_le (kc : Nat) (H : Nat → Nat → Bool) (j : Nat) : mor kc H j ≤ 32 := by
  have := ct_cnt_le (fun i => H i j) 32
  unfold mor
  omega
theorem cnt_f {P : Nat → Bool} : ∀ c, (∀ i, ¬ P i = true) → ct_cnt P c = 0 := by
  intro c
  induction c with
  | zero => intro _; rfl
  | succ c ih =>
    intro h
    show (if P c = true then ct_cnt P c + 1 else ct_cnt P c) = 0
    rw [if_neg (h c), ih h]
theorem addP_ok (n : Nat) (hn : 2400 < n) {M kc : Nat} {ps : Nat → Nat} {H : Nat → Nat → Bool} (hM : M ≤ 60) (hkc : kc ≤ 4) (hH : ∀ a j, H a j = true → j < M) (I : MI) (J : MJ) (h16 : I 16 2 = nI M) (h0 : I 16 0 = nI kc) (h29 : ∀ j, j < 60 → I 29 j = nI (ct_cnt (fun i => H i j) 32)) (h30 : ∀ j, j < 60 → I 30 j = nI (ps j)) : ∃ v I', fX8_addPasts n I J = some (v, I', J) ∧ (v = 0 ↔ ∀ j, j < M → mor kc H j = 0) ∧ (∀ a, a ≠ 30 → I' a = I a) ∧ ∀ j, j < 60 → I' 30 j = nI (ps j + mor kc H j) := by
  have l : ∀ q k x I1, k ≤ M → M < q + k → (∀ a, a ≠ 30 → I1 a = I a) → (∀ j, j < 60 → I1 30 j = nI (if j < k then ps j + mor kc H j else ps j)) → ((x = 0 ∧ ∀ j, j < k → mor kc H j = 0) ∨ (x = 1 ∧ ∃ j, j < M ∧ mor kc H j ≠ 0)) → ∃ v I', lX8_addPasts_4 n q x (nI k) I1 J = some (v, I', J) ∧ (v = 0 ↔ ∀ j, j < M → mor kc H j = 0) ∧ (∀ a, a ≠ 30 → I' a = I a) ∧ ∀ j, j < 60 → I' 30 j = nI (ps j + mor kc H j) := by
    intro q
    induction q with
    | zero => intro k x I1 h1 h2; omega
    | succ q ih =>
      intro k x I1 h1 h2 f1 f2 hx
      have e : lX8_addPasts_4 n (q + 1) x (nI k) I1 J = fX8_addPasts_4 n (lX8_addPasts_4 n q) x (nI k) I1 J := rfl
      rw [e]
      unfold fX8_addPasts_4 fX8_addPasts_47
      rw [f1 16 (by decide), h16, h0]
      by_cases hk : k = M
      · subst hk
        rw [if_pos (Int32.le_refl _), if_pos (by rcases hx with ⟨rfl, -⟩ | ⟨rfl, -⟩ <;> decide)]
        refine ⟨x, I1, rfl, ?_, f1, fun j hj => ?_⟩
        · rcases hx with ⟨rfl, z⟩ | ⟨rfl, j, z1, z2⟩
          · exact ⟨fun _ => z, fun _ => rfl⟩
          · exact ⟨fun y => absurd y (by decide), fun y => absurd (y j z1) z2⟩
        · rw [f2 j hj]
          by_cases q1 : j < k
          · rw [if_pos q1]
          · rw [if_neg q1]
            have : mor kc H j = 0 := by
              unfold mor
              rw [cnt_f 32 (fun i z => q1 (hH i j z))]
              omega
            rw [this, Nat.add_zero]
      have hk60 : k < 60 := by omega
      have ik : inb (nI k) 60 = true := inb_nI hk60 (by decide)
      have hcl := ct_cnt_le (fun i => H i k) 32
      have hmor : mor kc H k = ct_cnt (fun i => H i k) 32 - kc := rfl
      rw [if_neg (nI_ge (by omega) (by omega)), clampI (by omega), f1 29 (by decide), h29 k hk60, nI_1]
      simp only [ik, if_true, lt]
      by_cases hgt : kc < ct_cnt (fun i => H i k) 32
      · rw [if_neg (nI_ge hgt (by omega)), f2 k hk60, if_neg (Nat.lt_irrefl k), pk_sub (by omega), nI_add]
        refine ih (k + 1) 1 _ (by omega) (by omega) (fun a ha => by rw [upM_ne a ha]; exact f1 a ha) (fun j hj => ?_) (Or.inr ⟨rfl, k, by omega, by omega⟩)
        rw [upM_get, if_pos rfl]
        by_cases q1 : j = k
        · rw [if_pos q1, q1, if_pos (by omega), hmor]
        · have : (j < k + 1) ↔ j < k := by omega
          rw [if_neg q1, f2 j hj]
          simp only [this]
      · rw [if_pos (nI_le (by omega) (by omega))]
        refine ih (k + 1) x I1 (by omega) (by omega) f1 (fun j hj => ?_) ?_
        · rw [f2 j hj]
          by_cases q1 : j = k
          · rw [q1, if_neg (Nat.lt_irrefl k), if_pos (by omega), hmor, show ct_cnt (fun i => H i k) 32 - kc = 0 by omega, Nat.add_zero]
          · have : (j < k + 1) ↔ j < k := by omega
            simp only [this]
        · rcases hx with ⟨z1, z2⟩ | z
          · refine Or.inl ⟨z1, fun j hj => ?_⟩
            by_cases q1 : j = k
            · rw [q1, hmor]; omega
            · exact z2 j (by omega)
          · exact Or.inr z
  exact l n 0 0 I (Nat.zero_le _) (by omega) (fun _ _ => rfl) (fun j hj => by rw [if_neg (Nat.not_lt_zero _)]; exact h30 j hj) (Or.inl ⟨rfl, fun j hj => absurd hj (Nat.not_lt_zero _)⟩)
theorem sumf_0 {f : Nat → Nat} : ∀ k, sumf f k = 0 ↔ ∀ j, j < k → f j = 0 := by
  intro k
  induction k with
  | zero => exact ⟨fun _ j hj => absurd hj (Nat.not_lt_zero _), fun _ => rfl⟩
  | succ k ih =>
    have e : sumf f (k + 1) = sumf f k + f k := rfl
    rw [e]
    constructor
    · intro z j hj
      by_cases q : j = k
      · rw [q]; omega
      · exact ih.mp (by omega) j (by omega)
    · intro z
      rw [ih.mpr (fun j hj => z j (by omega)), z k (by omega)]
theorem sumf_b {f : Nat → Nat} {b : Nat} (h : ∀ j, f j ≤ b) : ∀ k, sumf f k ≤ b * k := by
  intro k
  induction k with
  | zero => exact Nat.zero_le _
  | succ k ih =>
    have e : sumf f (k + 1) = sumf f k + f k := rfl
    have := h k
    rw [e, Nat.mul_succ]
    omega
theorem over_ok (n : Nat) (hn : 2400 < n) {N M w h kc : Nat} {lo hi ps : Nat → Nat} {H : Nat → Nat → Bool} {k101 : Int32 → Int32 → MI → MJ → Option (Int32 × M2)} {x1 x2 : Int32} (hM : M ≤ 60) (hR : gfR n N M lo hi w h) (hkc : kc ≤ 4) (hH : ∀ a j, H a j = true → j < M) (K : MI) (J : MJ) (h24 : K 44 24 = nI w) (h25 : K 44 25 = nI h) (h27 : K 44 27 = nI kc) (h63 : ∀ j, j < 60 → K 63 j = nI (ct_cnt (fun i => H i j) 32)) (h64 : ∀ j, j < 60 → K 64 j = nI (ps j)) : ∃ K', lX10_lead_140 n k101 n x1 x2 0 0 K J = (if (∀ j, j < M → mor kc H j = 0) then some (x2, K', J) else k101 x1 (x2 + 1) K' J) ∧ (∀ a, a ≠ 64 → K' a = K a) ∧ ∀ j, j < 60 → K' 64 j = nI (ps j + mor kc H j) := by
  have l : ∀ q k K1, k ≤ M → M < q + k → (∀ a, a ≠ 64 → K1 a = K a) → (∀ j, j < 60 → K1 64 j = nI (if j < k then ps j + mor kc H j else ps j)) → ∃ K', lX10_lead_140 n k101 q x1 x2 (nI (sumf (mor kc H) k)) (nI k) K1 J = (if (∀ j, j < M → mor kc H j = 0) then some (x2, K', J) else k101 x1 (x2 + 1) K' J) ∧ (∀ a, a ≠ 64 → K' a = K a) ∧ ∀ j, j < 60 → K' 64 j = nI (ps j + mor kc H j) := by
    intro q
    induction q with
    | zero => intro k K1 h1 h2; omega
    | succ q ih =>
      intro k K1 h1 h2 f1 f2
      have e : lX10_lead_140 n k101 (q + 1) x1 x2 (nI (sumf (mor kc H) k)) (nI k) K1 J = fX10_lead_140 n k101 (lX10_lead_140 n k101 q) x1 x2 (nI (sumf (mor kc H) k)) (nI k) K1 J := rfl
      have f44 : K1 44 = K 44 := f1 44 (by decide)
      rw [e]
      unfold fX10_lead_140 fX10_lead_179
      rw [(hR K1 J (by rw [f44]; exact h24) (by rw [f44]; exact h25)).2.1]
      simp only [Option.bind_some]
      by_cases hk : k = M
      · subst hk
        have hb := sumf_b (mor_le kc H) k
        rw [if_pos (Int32.le_refl _)]
        refine ⟨K1, ?_, f1, fun j hj => ?_⟩
        · by_cases hz : ∀ j, j < k → mor kc H j = 0
          · rw [if_pos hz, (sumf_0 k).mpr hz, if_pos (by decide)]
          · rw [if_neg hz, if_neg (show ¬ nI (sumf (mor kc H) k) = 0 from fun z => hz ((sumf_0 k).mp ((nI_eq (a := sumf (mor kc H) k) (b := 0) (by omega) (by decide)).mp z)))]
        · rw [f2 j hj]
          by_cases q1 : j < k
          · rw [if_pos q1]
          · rw [if_neg q1]
            have : mor kc H j = 0 := by
              unfold mor
              rw [cnt_f 32 (fun i z => q1 (hH i j z))]
              omega
            rw [this, Nat.add_zero]
      have hk60 : k < 60 := by omega
      have ik : inb (nI k) 60 = true := inb_nI hk60 (by decide)
      have hcl := ct_cnt_le (fun i => H i k) 32
      have hmor : mor kc H k = ct_cnt (fun i => H i k) 32 - kc := rfl
      rw [if_neg (nI_ge (by omega) (by omega)), clampI (by omega), f1 63 (by decide), h63 k hk60, f44, h27, nI_1]
      simp only [ik, if_true, lt]
      have go : ∀ v : Int32, v = nI (mor kc H k) → ∃ K', lX10_lead_140 n k101 q x1 x2 (nI (sumf (mor kc H) k) + v) (nI (k + 1)) (upM K1 64 k (K1 64 k + v)) J = (if (∀ j, j < M → mor kc H j = 0) then some (x2, K', J) else k101 x1 (x2 + 1) K' J) ∧ (∀ a, a ≠ 64 → K' a = K a) ∧ ∀ j, j < 60 → K' 64 j = nI (ps j + mor kc H j) := by
        intro v hv
        rw [hv, nI_add, f2 k hk60, if_neg (Nat.lt_irrefl k), nI_add]
        refine ih (k + 1) _ (by omega) (by omega) (fun a ha => by rw [upM_ne a ha]; exact f1 a ha) (fun j hj => ?_)
        rw [upM_get, if_pos rfl]
        by_cases q1 : j = k
        · rw [if_pos q1, q1, if_pos (by omega)]
        · have : (j < k + 1) ↔ j < k := by omega
          rw [if_neg q1, f2 j hj]
          simp only [this]
      by_cases hgt : kc < ct_cnt (fun i => H i k) 32
      · rw [if_neg (nI_ge hgt (by omega)), pk_sub (by omega)]
        exact go _ (by rw [hmor])
      · rw [if_pos (nI_le (by omega) (by omega))]
        exact go 0 (by rw [hmor, show ct_cnt (fun i => H i k) 32 - kc = 0 by omega]; rfl)
  exact l n 0 K (Nat.zero_le _) (by omega) (fun _ _ => rfl) (fun j hj => by rw [if_neg (Nat.not_lt_zero _)]; exact h64 j hj)
theorem turns_ok (n : Nat) (hn : 2400 < n) {c N M w h kc T : Nat} {lo hi : Nat → Nat} {P : Nat → Bool} {τ : Nat → Nat} {E : Nat → Int64} {I0 : MI} {J0 : MJ} (hS : ldS n c N M lo hi w h kc P τ E I0) (hT : T ≤ 40) : ∀ d k H ps, k + d = T + 1 → 1 ≤ k → (∀ a j, H a j = true → j < M) → (∀ j, ps j ≤ 32 * (k - 1)) → ((∀ i, i < c → P i = true → rcE N M lo hi τ E H i) ∨ 1 ≤ d) → ∃ v H' ps', (∀ a j, H' a j = true → j < M) ∧ (∀ i, i < c → P i = true → rcE N M lo hi τ E H' i) ∧ (∀ I J q, d < q → cL_ I0 J0 H ps I J → ∃ I' J', lX8_leadAll_32 n q (nI T) (nI k) I J = some (v, I', J') ∧ cL_ I0 J0 H' ps' I' J') ∧ ∀ B0, baseR I0 B0 → ∀ K J q, d < q → rL_ B0 H ps K → ∃ K', lX10_lead_101 n q (nI T) (nI k) K J = some (v, K', J) ∧ rL_ B0 H' ps' K' := by
  obtain ⟨hc, hG, hR, hgC, ⟨hkc, h160, h24, h25, h27, h6⟩, -⟩ := id hS
  have hM := hG.1.2
  intro d
  induction d with
  | zero =>
    intro k H ps hk hk1 hH hps hr
    refine ⟨-1, H, ps, hH, hr.resolve_right (by omega), fun I J q hq hCL => ?_, fun B0 hB K J q hq hRL => ?_⟩
    · obtain ⟨q, rfl⟩ : ∃ z, q = z + 1 := ⟨q - 1, by omega⟩
      have e : lX8_leadAll_32 n (q + 1) (nI T) (nI k) I J = fX8_leadAll_32 n (lX8_leadAll_32 n q) (nI T) (nI k) I J := rfl
      refine ⟨I, J, ?_, hCL⟩
      rw [e]
      unfold fX8_leadAll_32
      rw [if_pos (nI_lt (by omega) (by omega))]
    · obtain ⟨q, rfl⟩ : ∃ z, q = z + 1 := ⟨q - 1, by omega⟩
      have e : lX10_lead_101 n (q + 1) (nI T) (nI k) K J = fX10_lead_101 n (lX10_lead_101 n q) (nI T) (nI k) K J := rfl
      refine ⟨K, ?_, hRL⟩
      rw [e]
      unfold fX10_lead_101
      rw [if_pos (nI_lt (by omega) (by omega))]
  | succ d ih =>
    intro k H ps hk hk1 hH hps hr
    obtain ⟨H1, a1, a2, a3, a4, a5⟩ := things_ok n hn (J0 := J0) hS (ps := ps) (fun j _ => Nat.le_trans (hps j) (by omega)) c 0 H (by omega) hH
    have hr1 : ∀ i, i < c → P i = true → rcE N M lo hi τ E H1 i := fun i hi hP => a3 i (Nat.zero_le _) hi hP
    have hps1 : ∀ j, ps j + mor kc H1 j ≤ 32 * (k + 1 - 1) := fun j => by
      have q1 := hps j
      have q2 := mor_le kc H1 j
      have q3 : k + 1 - 1 = (k - 1) + 1 := by omega
      rw [q3, Nat.mul_succ]
      omega
    /- the class through one turn -/
    have cls : ∀ k32 I J, cL_ I0 J0 H ps I J → ∃ I' J' v, lX8_leadAll_41 n k32 n (nI T) (nI k) 0 I J = (if v = 0 then some (nI k, I', J') else k32 (nI T) (nI (k + 1)) I' J') ∧ (v = (0 : Int32) ↔ ∀ j, j < M → mor kc H1 j = 0) ∧ cL_ I0 J0 H1 (fun j => ps j + mor kc H1 j) I' J' := by
      intro k32 I J hCL
      obtain ⟨I1, J1, y1, y2⟩ := a4 k32 (nI T) (nI k) I J n (by omega) hCL
      obtain ⟨c1, c2, f1, f2, f3⟩ := y2
      obtain ⟨v, I2, z1, z2, z3, z4⟩ := addP_ok n hn (ps := ps) (H := H1) hM hkc a1 I1 J1 (by rw [f1 16 (by decide) (by decide) (by decide) (by decide) (by decide)]; exact hgC.2.1) (by rw [f1 16 (by decide) (by decide) (by decide) (by decide) (by decide)]; exact h160) c1.1 c2
      refine ⟨I2, J1, v, ?_, z2, ⟨by rw [z3 29 (by decide)]; exact c1.1, c1.2⟩, z4, fun a q1 q2 q3 q4 q5 => by rw [z3 a q3]; exact f1 a q1 q2 q3 q4 q5, by rw [z3 28 (by decide)]; exact f2, f3⟩
      have y1' : lX8_leadAll_41 n k32 n (nI T) (nI k) 0 I J = _ := y1
      rw [y1', z1, nI_1]
      rfl
    have ref : ∀ B0, baseR I0 B0 → ∀ k101 K J, rL_ B0 H ps K → ∃ K', lX10_lead_108 n k101 n (nI T) (nI k) 0 K J = (if (∀ j, j < M → mor kc H1 j = 0) then some (nI k, K', J) else k101 (nI T) (nI (k + 1)) K' J) ∧ rL_ B0 H1 (fun j => ps j + mor kc H1 j) K' := by
      intro B0 hB k101 K J hRL
      obtain ⟨K1, y1, y2⟩ := a5 B0 hB k101 (nI T) (nI k) K J n (by omega) hRL
      obtain ⟨c1, c2, f1, f2, f3⟩ := y2
      have b44 : B0 44 = I0 44 := hB 44 (by decide) (by decide) (by decide) (by decide) (by decide)
      obtain ⟨K2, z1, z2, z3⟩ := over_ok n hn (k101 := k101) (x1 := nI T) (x2 := nI k) (ps := ps) (H := H1) hM hR hkc a1 K1 J (by rw [f2 24 (by decide), b44]; exact h24) (by rw [f2 25 (by decide), b44]; exact h25) (by rw [f2 27 (by decide), b44]; exact h27) c1.1 c2
      refine ⟨K2, ?_, ⟨by rw [z2 63 (by decide)]; exact c1.1, by rw [z2 62 (by decide)]; exact c1.2⟩, z3, fun a q1 q2 => by rw [z2 a (by omega)]; exact f1 a q1 q2, fun j hj => by rw [z2 44 (by decide)]; exact f2 j hj, by rw [z2 44 (by decide)]; exact f3⟩
      have y1' : lX10_lead_108 n k101 n (nI T) (nI k) 0 K J = _ := y1
      rw [y1', z1, nI_1]
    by_cases hz : ∀ j, j < M → mor kc H1 j = 0
    · refine ⟨nI k, H1, fun j => ps j + mor kc H1 j, a1, hr1, fun I J q hq hCL => ?_, fun B0 hB K J q hq hRL => ?_⟩
      · obtain ⟨q, rfl⟩ : ∃ z, q = z + 1 := ⟨q - 1, by omega⟩
        have e : lX8_leadAll_32 n (q + 1) (nI T) (nI k) I J = fX8_leadAll_32 n (lX8_leadAll_32 n q) (nI T) (nI k) I J := rfl
        obtain ⟨I', J', v, y1, y2, y3⟩ := cls (lX8_leadAll_32 n q) I J hCL
        refine ⟨I', J', ?_, y3⟩
        rw [e]
        unfold fX8_leadAll_32
        rw [if_neg (nI_nlt (by omega) (by omega)), y1, if_pos (y2.mpr hz)]
      · obtain ⟨q, rfl⟩ : ∃ z, q = z + 1 := ⟨q - 1, by omega⟩
        have e : lX10_lead_101 n (q + 1) (nI T) (nI k) K J = fX10_lead_101 n (lX10_lead_101 n q) (nI T) (nI k) K J := rfl
        obtain ⟨K', y1, y2⟩ := ref B0 hB (lX10_lead_101 n q) K J hRL
        refine ⟨K', ?_, y2⟩
        rw [e]
        unfold fX10_lead_101
        rw [if_neg (nI_nlt (by omega) (by omega)), y1, if_pos hz]
    · obtain ⟨v', H', ps', b1, b2', b3, b4⟩ := ih (k + 1) H1 (fun j => ps j + mor kc H1 j) (by omega) (by omega) a1 hps1 (Or.inl hr1)
      refine ⟨v', H', ps', b1, b2', fun I J q hq hCL => ?_, fun B0 hB K J q hq hRL => ?_⟩
      · obtain ⟨q, rfl⟩ : ∃ z, q = z + 1 := ⟨q - 1, by omega⟩
        have e : lX8_leadAll_32 n (q + 1) (nI T) (nI k) I J = fX8_leadAll_32 n (lX8_leadAll_32 n q) (nI T) (nI k) I J := rfl
        obtain ⟨I1, J1, v, y1, y2, y3⟩ := cls (lX8_leadAll_32 n q) I J hCL
        obtain ⟨I', J', z1, z2⟩ := b3 I1 J1 q (by omega) y3
        refine ⟨I', J', ?_, z2⟩
        rw [e]
        unfold fX8_leadAll_32
        rw [if_neg (nI_nlt (by omega) (by omega)), y1, if_neg (fun z => hz (y2.mp z))]
        exact z1
      · obtain ⟨q, rfl⟩ : ∃ z, q = z + 1 := ⟨q - 1, by omega⟩
        have e : lX10_lead_101 n (q + 1) (nI T) (nI k) K J = fX10_lead_101 n (lX10_lead_101 n q) (nI T) (nI k) K J := rfl
        obtain ⟨K1, y1, y2⟩ := ref B0 hB (lX10_lead_101 n q) K J hRL
        obtain ⟨K', z1, z2⟩ := b4 B0 hB K1 J q (by omega) y2
        refine ⟨K', ?_, z2⟩
        rw [e]
        unfold fX10_lead_101
        rw [if_neg (nI_nlt (by omega) (by omega)), y1, if_neg hz]
        exact z1
