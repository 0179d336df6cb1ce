/-! set: tile by tile, and the reference's least tile with room -/
theorem put_out (n : Nat) (hn : 2400 < n) {c T N : Nat} {P : Nat → Bool} {cap : Nat → Nat} {τ : Nat → Nat} (hc : c ≤ 32) (hT : T ≤ 36) (hN : N = ct_cnt P c) (hcap : ∀ t, cap t ≤ 4) (hfit : N ≤ acc cap T) (hτ : ∀ i, i < c → P i = true → isPl cap (τ i) (ct_cnt P i)) (J : MJ) (I0 : MI) (h16 : I0 16 1 = nI T) (hroom : ∀ t, t < T → (if bl (J 16 9) t = true then 0 else I0 16 8) = nI (cap t)) (h22 : I0 22 1 = nI N) (h23 : ∀ i, i < c → P i = true → I0 23 (ct_cnt P i) = nI i) (hat : ∀ x, x < N → ∃ i, i < c ∧ P i = true ∧ ct_cnt P i = x) : ∀ d t I, t + d = T → (∀ a, a ≠ 24 → a ≠ 25 → I a = I0 a) → (∀ b, b < t → I 25 b = nI (min N (acc cap (b + 1)) - min N (acc cap b))) → (∀ b, t ≤ b → b < 36 → I 25 b = 0) → (∀ i, i < c → P i = true → ct_cnt P i < min (acc cap t) N → I 24 i = nI (τ i)) → (∀ i, ¬ (i < c ∧ P i = true) → I 24 i = I0 24 i) → ∀ q, d < q → ∃ I', lX5_putAll_20 n q (nI (min (acc cap t) N)) (nI t) I J = some (I', J) ∧ (∀ a, a ≠ 22 → a ≠ 24 → a ≠ 25 → I' a = I0 a) ∧ I' 22 0 = 1 ∧ I' 22 1 = nI N ∧ (∀ b, b < T → I' 25 b = nI (min N (acc cap (b + 1)) - min N (acc cap b))) ∧ (∀ b, T ≤ b → b < 36 → I' 25 b = 0) ∧ (∀ i, i < c → P i = true → I' 24 i = nI (τ i)) ∧ (∀ i, ¬ (i < c ∧ P i = true) → I' 24 i = I0 24 i) := by
  intro d
  induction d with
  | zero =>
    intro t I ht f1 f2 f3 f4 f5 q hq
    obtain ⟨q, rfl⟩ : ∃ z, q = z + 1 := ⟨q - 1, by omega⟩
    obtain rfl : t = T := by omega
    have e : lX5_putAll_20 n (q + 1) (nI (min (acc cap t) N)) (nI t) I J = fX5_putAll_20 n (lX5_putAll_20 n q) (nI (min (acc cap t) N)) (nI t) I J := rfl
    rw [e]
    unfold fX5_putAll_20
    rw [f1 16 (by decide) (by decide), h16, if_pos (Int32.le_refl _)]
    refine ⟨_, rfl, fun a q1 q2 q3 => ?_, ?_, ?_, fun b hb => ?_, fun b h1 h2 => ?_, fun i hi hP => ?_, fun i hi => ?_⟩
    · rw [upM_ne a q1]; exact f1 a q2 q3
    · rw [upM_get, if_pos rfl, if_pos rfl]
    · rw [upM_get, if_pos rfl, if_neg (by decide), f1 22 (by decide) (by decide)]; exact h22
    · rw [upM_ne 25 (by decide)]; exact f2 b hb
    · rw [upM_ne 25 (by decide)]; exact f3 b h1 h2
    · rw [upM_ne 24 (by decide)]
      refine f4 i hi hP ?_
      have h1 := ct_cnt_mono P (a := i + 1) c (by omega)
      have h2 : ct_cnt P (i + 1) = if P i = true then ct_cnt P i + 1 else ct_cnt P i := rfl
      rw [if_pos hP] at h2
      omega
    · rw [upM_ne 24 (by decide)]; exact f5 i hi
  | succ d ih =>
    intro t I ht f1 f2 f3 f4 f5 q hq
    obtain ⟨q, rfl⟩ : ∃ z, q = z + 1 := ⟨q - 1, by omega⟩
    have e : lX5_putAll_20 n (q + 1) (nI (min (acc cap t) N)) (nI t) I J = fX5_putAll_20 n (lX5_putAll_20 n q) (nI (min (acc cap t) N)) (nI t) I J := rfl
    rw [e]
    have hm := acc_mono cap (a := t) (t + 1) (by omega)
    obtain ⟨I1, j1, j2, j3, j4, j5, j6⟩ := put_in n hc (show t < 36 by omega) hN (hcap t) hτ (lX5_putAll_20 n q) J I (by rw [f1 22 (by decide) (by decide)]; exact h22) (by rw [f1 23 (by decide) (by decide)]; exact h23) hat (cap t) (cap t) (min (acc cap t) N) I rfl rfl (Nat.le_refl _) (by omega) (fun _ _ _ => rfl) (fun _ _ => rfl) (by rw [f3 t (Nat.le_refl _) (by omega), Nat.sub_self]; rfl) f4 (fun _ _ => rfl) n (by have := hcap t; omega)
    unfold fX5_putAll_20
    rw [f1 16 (by decide) (by decide), h16, if_neg (nI_ge (by omega) (by omega)), roomOf_eq n (by omega), f1 16 (by decide) (by decide), hroom t (by omega)]
    simp only [Option.bind_some, lt]
    rw [j1]
    refine ih (t + 1) I1 (by omega) (fun a q1 q2 => by rw [j2 a q1 q2]; exact f1 a q1 q2) (fun b hb => ?_) (fun b h1 h2 => ?_) j5 (fun i hi => by rw [j6 i hi]; exact f5 i hi) q (by omega)
    · by_cases hbt : b = t
      · rw [hbt]; exact j4
      · rw [j3 b hbt]; exact f2 b (by omega)
    · rw [j3 b (by omega)]; exact f3 b (by omega) h2
theorem putAll_ok (n : Nat) (hn : 2400 < n) {c T N : Nat} {P : Nat → Bool} {cap : Nat → Nat} {τ : Nat → Nat} (hc : c ≤ 32) (hT : T ≤ 36) (hN : N = ct_cnt P c) (hcap : ∀ t, cap t ≤ 4) (hfit : N ≤ acc cap T) (hτ : ∀ i, i < c → P i = true → isPl cap (τ i) (ct_cnt P i)) (J : MJ) (I0 : MI) (h16 : I0 16 1 = nI T) (hroom : ∀ t, t < T → (if bl (J 16 9) t = true then 0 else I0 16 8) = nI (cap t)) (h22 : I0 22 1 = nI N) (h23 : ∀ i, i < c → P i = true → I0 23 (ct_cnt P i) = nI i) (hat : ∀ x, x < N → ∃ i, i < c ∧ P i = true ∧ ct_cnt P i = x) : ∃ I', fX5_putAll n I0 J = some (I', J) ∧ (∀ a, a ≠ 22 → a ≠ 24 → a ≠ 25 → I' a = I0 a) ∧ I' 22 0 = 1 ∧ I' 22 1 = nI N ∧ (∀ b, b < T → I' 25 b = nI (min N (acc cap (b + 1)) - min N (acc cap b))) ∧ (∀ b, T ≤ b → b < 36 → I' 25 b = 0) ∧ (∀ i, i < c → P i = true → I' 24 i = nI (τ i)) ∧ (∀ i, i < c → ¬ P i = true → I' 24 i = -1) := by
  unfold fX5_putAll
  rw [fill_eq n 24 32 (-1) I0 J (by decide) (by decide) aln_24 (by omega)]
  simp only [Option.bind_some]
  rw [fill_eq n 25 36 0 _ J (by decide) (by decide) aln_25 (by omega)]
  simp only [Option.bind_some]
  generalize hG : fillc (fillc I0 24 32 (-1)) 25 36 0 = G
  have Gx : ∀ a, a ≠ 24 → a ≠ 25 → G a = I0 a := by
    intro a q1 q2
    funext b
    rw [← hG]
    unfold fillc
    rw [if_neg (fun z => q2 z.1), if_neg (fun z => q1 z.1)]
  have G25 : ∀ b, b < 36 → G 25 b = 0 := by
    intro b hb
    rw [← hG]
    unfold fillc
    rw [if_pos ⟨rfl, hb⟩]
  have G24 : ∀ b, b < 32 → G 24 b = -1 := by
    intro b hb
    rw [← hG]
    unfold fillc
    rw [if_neg (fun z => absurd z.1 (by decide)), if_pos ⟨rfl, hb⟩]
  have z0 : min (acc cap 0) N = 0 := by
    have : acc cap 0 = 0 := rfl
    omega
  obtain ⟨I', p1, p2, p3, p4, p5, p6, p7, p8⟩ := put_out n hn hc hT hN hcap hfit hτ J G (by rw [Gx 16 (by decide) (by decide)]; exact h16) (by rw [Gx 16 (by decide) (by decide)]; exact hroom) (by rw [Gx 22 (by decide) (by decide)]; exact h22) (by rw [Gx 23 (by decide) (by decide)]; exact h23) hat T 0 G (by omega) (fun _ _ _ => rfl) (fun b hb => absurd hb (Nat.not_lt_zero _)) (fun b _ hb => G25 b hb) (fun i hi hP hlt => by rw [z0] at hlt; exact absurd hlt (Nat.not_lt_zero _)) (fun _ _ => rfl) n (by omega)
  rw [z0] at p1
  exact ⟨I', p1, fun a q1 q2 q3 => by rw [p2 a q1 q2 q3]; exact Gx a q2 q3, p3, p4, p5, p6, p7, fun i hi hP => by rw [p8 i (fun z => hP z.2)]; exact G24 i (by omega)⟩
