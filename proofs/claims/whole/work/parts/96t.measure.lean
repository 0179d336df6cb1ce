/-! ways: joints relaxed, class and reference -/
def rlx (lo hi p : Nat → Nat) (f : Nat → Nat) (j : Nat) : Nat → Nat := if f (lo j) + p j < f (hi j) then upf f (hi j) (f (lo j) + p j) else if f (hi j) + p j < f (lo j) then upf f (lo j) (f (hi j) + p j) else f
theorem rlx_le (lo hi p f : Nat → Nat) (j t : Nat) : rlx lo hi p f j t ≤ f t := by
  unfold rlx
  by_cases h1 : f (lo j) + p j < f (hi j)
  · rw [if_pos h1]
    by_cases q : t = hi j
    · rw [q, upf_t]; omega
    · rw [upf_n q]; exact Nat.le_refl _
  · rw [if_neg h1]
    by_cases h2 : f (hi j) + p j < f (lo j)
    · rw [if_pos h2]
      by_cases q : t = lo j
      · rw [q, upf_t]; omega
      · rw [upf_n q]; exact Nat.le_refl _
    · rw [if_neg h2]; exact Nat.le_refl _
theorem rlx_to {lo hi p f : Nat → Nat} {j t o : Nat} (hne : lo j ≠ hi j) (h : inc lo hi j t o) : rlx lo hi p f j t ≤ f o + p j := by
  have hle := rlx_le lo hi p f j
  unfold rlx at hle ⊢
  by_cases h1 : f (lo j) + p j < f (hi j)
  · rw [if_pos h1] at hle ⊢
    rcases h with ⟨rfl, rfl⟩ | ⟨rfl, rfl⟩
    · rw [upf_n hne]; omega
    · rw [upf_t]; exact Nat.le_refl _
  · rw [if_neg h1] at hle ⊢
    by_cases h2 : f (hi j) + p j < f (lo j)
    · rw [if_pos h2]
      rcases h with ⟨rfl, rfl⟩ | ⟨rfl, rfl⟩
      · rw [upf_t]; exact Nat.le_refl _
      · rw [upf_n (Ne.symm hne)]; omega
    · rw [if_neg h2]
      rcases h with ⟨rfl, rfl⟩ | ⟨rfl, rfl⟩ <;> omega
theorem rlx_low {N : Nat} {lo hi p f d : Nat → Nat} {j : Nat} (hd : ∀ t o, inc lo hi j t o → d t ≤ d o + p j) (hl : lo j < N) (hh : hi j < N) (hf : ∀ t, t < N → d t ≤ f t) : ∀ t, t < N → d t ≤ rlx lo hi p f j t := by
  intro t ht
  unfold rlx
  by_cases h1 : f (lo j) + p j < f (hi j)
  · rw [if_pos h1]
    by_cases q : t = hi j
    · have := hd (hi j) (lo j) (Or.inr ⟨rfl, rfl⟩)
      have := hf (lo j) hl
      rw [q, upf_t]; omega
    · rw [upf_n q]; exact hf t ht
  · rw [if_neg h1]
    by_cases h2 : f (hi j) + p j < f (lo j)
    · rw [if_pos h2]
      by_cases q : t = lo j
      · have := hd (lo j) (hi j) (Or.inl ⟨rfl, rfl⟩)
        have := hf (hi j) hh
        rw [q, upf_t]; omega
      · rw [upf_n q]; exact hf t ht
    · rw [if_neg h2]; exact hf t ht
def RdK (N M : Nat) (lo hi : Nat → Nat) (A : Nat → Prop) (p d : Nat → Nat) (K : Nat → Prop) (f f' : Nat → Nat) : Prop := (∀ t, f' t ≤ f t) ∧ ((∀ t, t < N → d t ≤ f t) → ∀ t, t < N → d t ≤ f' t) ∧ ∀ j, j < M → K j → A j → ∀ t o, inc lo hi j t o → f' t ≤ f o + p j
theorem RdK_0 {N M : Nat} {lo hi : Nat → Nat} {A : Nat → Prop} {p d f : Nat → Nat} {K : Nat → Prop} (hK : ∀ j, ¬ K j) : RdK N M lo hi A p d K f f := ⟨fun _ => Nat.le_refl _, fun h => h, fun j _ hk => absurd hk (hK j)⟩
theorem RdK_step {N M : Nat} {lo hi : Nat → Nat} {A : Nat → Prop} {p d f g : Nat → Nat} {K K' : Nat → Prop} {k : Nat} (hg : ∀ j, j < M → lo j < N ∧ hi j < N ∧ lo j ≠ hi j) (hd : ∀ j, j < M → A j → ∀ t o, inc lo hi j t o → d t ≤ d o + p j) (hk : k < M) (hA : A k) (hK : ∀ j, K' j → j = k ∨ K j) (h : RdK N M lo hi A p d K f g) : RdK N M lo hi A p d K' f (rlx lo hi p g k) := by
  obtain ⟨h1, h2, h3⟩ := h
  refine ⟨fun t => Nat.le_trans (rlx_le lo hi p g k t) (h1 t), fun hf => rlx_low (hd k hk hA) (hg k hk).1 (hg k hk).2.1 (h2 hf), fun j hj hKj hAj t o hi' => ?_⟩
  rcases hK j hKj with rfl | q
  · have := rlx_to (p := p) (f := g) (hg j hj).2.2 hi'
    have := h1 o
    omega
  · exact Nat.le_trans (rlx_le lo hi p g k t) (h3 j hj q hAj t o hi')
theorem RdK_skip {N M : Nat} {lo hi : Nat → Nat} {A : Nat → Prop} {p d f g : Nat → Nat} {K K' : Nat → Prop} {k : Nat} (hA : ¬ A k) (hK : ∀ j, K' j → j = k ∨ K j) (h : RdK N M lo hi A p d K f g) : RdK N M lo hi A p d K' f g := by
  refine ⟨h.1, h.2.1, fun j hj hKj hAj t o hi' => ?_⟩
  rcases hK j hKj with rfl | q
  · exact absurd hAj hA
  · exact h.2.2 j hj q hAj t o hi'
/-- r rounds are through -/
def rdS (N : Nat) (S : Nat → Prop) (F : Nat) (d : Nat → Nat) (r : Nat) (f : Nat → Nat) : Prop := (∀ t, t < N → S t → f t = 0) ∧ (∀ t, t < N → d t ≤ f t) ∧ (∀ t, t < N → f t ≤ F) ∧ ∀ t, t < N → d t < F → rkD N d t ≤ r → f t ≤ d t
theorem rdS_0 {N M : Nat} {lo hi : Nat → Nat} {A : Nat → Prop} {p : Nat → Nat} {S : Nat → Prop} {F : Nat} {d f : Nat → Nat} (hg : ∀ j, j < M → lo j < N ∧ hi j < N ∧ lo j ≠ hi j) (hp : ∀ j, j < M → A j → 1 ≤ p j) (hD : isD N M lo hi A p S F d) (hz : ∀ t, t < N → S t → f t = 0) (hl : ∀ t, t < N → d t ≤ f t) (hF : ∀ t, t < N → f t ≤ F) : rdS N S F d 0 f := by
  refine ⟨hz, hl, hF, fun t ht hd hr => ?_⟩
  by_cases hS : S t
  · rw [hz t ht hS]; exact Nat.zero_le _
  · obtain ⟨j, o, q1, q2, q3, q4⟩ := hD.2.2.2 t ht hS hd
    have h1 := hp j q1 q2
    have := rkD_lt (N := N) (d := d) (t := t) (inc_N hg q1 q3).2.1 (by omega)
    omega
theorem rdS_step {N M : Nat} {lo hi : Nat → Nat} {A : Nat → Prop} {p : Nat → Nat} {S : Nat → Prop} {F : Nat} {d f f' : Nat → Nat} {K : Nat → Prop} {r : Nat} (hg : ∀ j, j < M → lo j < N ∧ hi j < N ∧ lo j ≠ hi j) (hp : ∀ j, j < M → A j → 1 ≤ p j) (hD : isD N M lo hi A p S F d) (hK : ∀ j, j < M → K j) (hR : RdK N M lo hi A p d K f f') (h : rdS N S F d r f) : rdS N S F d (r + 1) f' := by
  obtain ⟨h1, h2, h3, h4⟩ := h
  obtain ⟨r1, r2, r3⟩ := hR
  refine ⟨fun t ht hS => ?_, r2 h2, fun t ht => Nat.le_trans (r1 t) (h3 t ht), fun t ht hd hr => ?_⟩
  · have := r1 t
    have := h1 t ht hS
    omega
  · by_cases hS : S t
    · have := r1 t
      have := h1 t ht hS
      omega
    · obtain ⟨j, o, q1, q2, q3, q4⟩ := hD.2.2.2 t ht hS hd
      have hp1 := hp j q1 q2
      have hrk := rkD_lt (N := N) (d := d) (t := t) (inc_N hg q1 q3).2.1 (by omega)
      have := h4 o (inc_N hg q1 q3).2.1 (by omega) (by omega)
      have := r3 j q1 (hK j q1) q2 t o q3
      omega
theorem rdS_end {N : Nat} {S : Nat → Prop} {F : Nat} {d f : Nat → Nat} {r : Nat} (hdF : ∀ t, t < N → d t ≤ F) (hr : N ≤ r) (h : rdS N S F d r f) : ∀ t, t < N → f t = d t := by
  intro t ht
  have q1 := h.2.1 t ht
  have q2 := h.2.2.1 t ht
  have q3 := hdF t ht
  by_cases hd : d t < F
  · have := h.2.2.2 t ht hd (Nat.le_trans (rkD_le N d t) hr)
    omega
  · omega
theorem rdS_tri {N M : Nat} {lo hi : Nat → Nat} {A : Nat → Prop} {p : Nat → Nat} {S : Nat → Prop} {F : Nat} {d f : Nat → Nat} {r : Nat} (hg : ∀ j, j < M → lo j < N ∧ hi j < N ∧ lo j ≠ hi j) (hp : ∀ j, j < M → A j → 1 ≤ p j) (hD : isD N M lo hi A p S F d) (ht : ∀ j, j < M → A j → ∀ t o, inc lo hi j t o → f t ≤ f o + p j) (h : rdS N S F d r f) : ∀ t, t < N → f t = d t := by
  intro t htN
  have q1 := h.2.1 t htN
  have q2 := h.2.2.1 t htN
  have q3 := hD.2.1 t htN
  by_cases hd : d t < F
  · have := tri_le hg hp hD h.1 ht (d t + 1) t htN hd (by omega)
    omega
  · omega
/-- the class relaxes a joint -/
theorem relaxC_ok (n : Nat) {N M j : Nat} {lo hi p f : Nat → Nat} (hN : N ≤ 36) (hM : M ≤ 60) (hj : j < M) (hg : ∀ j, j < M → lo j < N ∧ hi j < N ∧ lo j ≠ hi j) (I : MI) (J : MJ) (h19 : I 19 j = nI (lo j)) (h20 : I 20 j = nI (hi j)) (h32 : I 32 j = nI (p j)) (hp : p j ≤ 1000000) (h33 : ∀ t, t < N → I 33 t = nI (f t)) (hF : ∀ t, t < N → f t ≤ 536870912) : ∃ v I', fX8_relax n (nI j) I J = some (v, I', J) ∧ (v = 0 ∨ v = 1) ∧ (v = 0 → rlx lo hi p f j = f) ∧ (∀ a, a ≠ 33 → I' a = I a) ∧ ∀ t, t < N → I' 33 t = nI (rlx lo hi p f j t) := by
  obtain ⟨g1, g2, g3⟩ := hg j hj
  have ij : inb (nI j) 60 = true := inb_nI (by omega) (by decide)
  have il : inb (nI (lo j)) 36 = true := inb_nI (by omega) (by decide)
  have ih : inb (nI (hi j)) 36 = true := inb_nI (by omega) (by decide)
  have b1 := hF (lo j) g1
  have b2' := hF (hi j) g2
  unfold fX8_relax
  rw [clampI (by omega), h19, h20, h32]
  simp only [ij, if_true, lt, il, ih]
  rw [clampI (show lo j < 2 ^ 31 by omega), clampI (show hi j < 2 ^ 31 by omega), h33 _ g1, h33 _ g2, nI_add, nI_add]
  have up : ∀ x y, x < N → ∀ t, t < N → upM I 33 x (nI y) 33 t = nI (upf f x y t) := by
    intro x y hx t ht
    rw [upM_get, if_pos rfl]
    by_cases q : t = x
    · rw [if_pos q, q, upf_t]
    · rw [if_neg q, upf_n q]; exact h33 t ht
  unfold rlx
  by_cases c1 : f (lo j) + p j < f (hi j)
  · rw [if_neg (fun z => by rw [nI_leI (by omega) (by omega)] at z; omega), if_pos c1]
    exact ⟨1, _, rfl, Or.inr rfl, fun z => absurd z (by decide), fun a ha => upM_ne a ha, up _ _ g2⟩
  · rw [if_pos (nI_le (by omega) (by omega)), if_neg c1]
    by_cases c2 : f (hi j) + p j < f (lo j)
    · rw [if_neg (fun z => by rw [nI_leI (by omega) (by omega)] at z; omega), if_pos c2]
      exact ⟨1, _, rfl, Or.inr rfl, fun z => absurd z (by decide), fun a ha => upM_ne a ha, up _ _ g1⟩
    · rw [if_pos (nI_le (by omega) (by omega)), if_neg c2]
      exact ⟨0, I, rfl, Or.inl rfl, fun _ => rfl, fun _ _ => rfl, h33⟩
theorem or01 {a b : Int32} (ha : a = 0 ∨ a = 1) (hb : b = 0 ∨ b = 1) : (a ||| b = 0 ∨ a ||| b = 1) ∧ (a ||| b = 0 → a = 0 ∧ b = 0) := by
  rcases ha with rfl | rfl <;> rcases hb with rfl | rfl <;> decide
theorem nI_m (k : Nat) : nI k + (-1) = nI k - 1 := (Int32.sub_eq_add_neg _ _).symm
/-- what a measure of the class stands on -/
def msC (N M : Nat) (lo hi p : Nat → Nat) (I : MI) : Prop := I 16 1 = nI N ∧ I 16 2 = nI M ∧ ∀ j, j < M → I 19 j = nI (lo j) ∧ I 20 j = nI (hi j) ∧ I 32 j = nI (p j) ∧ p j ≤ 1000000
theorem msC_fr {N M : Nat} {lo hi p : Nat → Nat} {I I' : MI} (h : ∀ a, a ≠ 33 → I' a = I a) (hp : msC N M lo hi p I) : msC N M lo hi p I' := by
  unfold msC
  rw [h 16 (by decide), h 19 (by decide), h 20 (by decide), h 32 (by decide)]
  exact hp
theorem m78_ok (n : Nat) {k6 : Int64 → Int32 → Int32 → MI → MJ → Option M2} {N M : Nat} {lo hi p d f0 : Nat → Nat} {A : Nat → Prop} {x2 : Int64} {x5 : Int32} (hN : N ≤ 36) (hM : M ≤ 60) (hg : ∀ j, j < M → lo j < N ∧ hi j < N ∧ lo j ≠ hi j) (hA : ∀ j, j < M → (bl x2 j = true ↔ A j)) (hd : ∀ j, j < M → A j → ∀ t o, inc lo hi j t o → d t ≤ d o + p j) (hF : ∀ t, t < N → f0 t ≤ 536870912) (I0 : MI) (J : MJ) (hm : msC N M lo hi p I0) : ∀ q k f x4 I, k ≤ M → k < q → (∀ a, a ≠ 33 → I a = I0 a) → (∀ t, t < N → I 33 t = nI (f t)) → (x4 = 0 ∨ x4 = 1) → (x4 = 0 → f = f0) → RdK N M lo hi A p d (fun _ => True) f0 f → ∃ x4' f' I', lX8_measure_78 n k6 q x2 x4 x5 (nI k - 1) I J = k6 x2 x4' (x5 + 1) I' J ∧ (∀ a, a ≠ 33 → I' a = I0 a) ∧ (∀ t, t < N → I' 33 t = nI (f' t)) ∧ (x4' = 0 ∨ x4' = 1) ∧ (x4' = 0 → f' = f0) ∧ RdK N M lo hi A p d (fun _ => True) f0 f' := by
  intro q
  induction q with
  | zero => intro k f x4 I h1 h2; omega
  | succ q ih =>
    intro k f x4 I h1 h2 hI h33 hx hxf hR
    have e : ∀ a b M', lX8_measure_78 n k6 (q + 1) x2 a x5 b M' J = fX8_measure_78 n k6 (lX8_measure_78 n k6 q) x2 a x5 b M' J := fun _ _ _ => rfl
    rw [e]
    unfold fX8_measure_78 fX8_measure_108 fX8_measure_109
    cases k with
    | zero =>
      rw [if_pos (by decide)]
      exact ⟨x4, f, I, rfl, hI, h33, hx, hxf, hR⟩
    | succ k =>
      rw [nI_pred, if_neg (nI_pos (by omega)), hasBit_eq n x2 (by omega), nI_m]
      simp only [Option.bind_some, lt]
      by_cases hb : bl x2 k = true
      · obtain ⟨-, -, hm3⟩ := hm
        obtain ⟨y1, y2, y3, y4⟩ := hm3 k (by omega)
        obtain ⟨v, I', z1, z2, z3, z4, z5⟩ := relaxC_ok n hN hM (show k < M by omega) hg I J (by rw [hI 19 (by decide)]; exact y1) (by rw [hI 20 (by decide)]; exact y2) (by rw [hI 32 (by decide)]; exact y3) y4 h33 (fun t ht => Nat.le_trans (hR.1 t) (hF t ht))
        have hR' := RdK_step (k := k) (K' := fun _ => True) hg hd (by omega) ((hA k (by omega)).mp hb) (fun j _ => Or.inr trivial) hR
        rw [b2_t hb, if_neg (by decide), z1]
        simp only [Option.bind_some]
        rcases z2 with rfl | rfl
        · rw [if_pos rfl]
          have o01 := or01 hx (Or.inl rfl : (0 : Int32) = 0 ∨ (0 : Int32) = 1)
          exact ih k _ _ I' (by omega) (by omega) (fun a ha => by rw [z4 a ha]; exact hI a ha) z5 o01.1 (fun w => by rw [z3 rfl]; exact hxf (o01.2 w).1) hR'
        · rw [if_neg (by decide)]
          have o01 := or01 hx (Or.inr rfl : (1 : Int32) = 0 ∨ (1 : Int32) = 1)
          exact ih k _ _ I' (by omega) (by omega) (fun a ha => by rw [z4 a ha]; exact hI a ha) z5 o01.1 (fun w => absurd (o01.2 w).2 (by decide)) hR'
      · rw [b2_f hb, if_pos rfl]
        have o01 := or01 hx (Or.inl rfl : (0 : Int32) = 0 ∨ (0 : Int32) = 1)
        exact ih k _ _ I (by omega) (by omega) hI h33 o01.1 (fun w => hxf (o01.2 w).1) hR
theorem m26_ok (n : Nat) (hn : 2400 < n) {k6 : Int64 → Int32 → Int32 → MI → MJ → Option M2} {N M : Nat} {lo hi p d f0 : Nat → Nat} {A : Nat → Prop} {x2 : Int64} {x5 : Int32} (hN : N ≤ 36) (hM : M ≤ 60) (hg : ∀ j, j < M → lo j < N ∧ hi j < N ∧ lo j ≠ hi j) (hA : ∀ j, j < M → (bl x2 j = true ↔ A j)) (hd : ∀ j, j < M → A j → ∀ t o, inc lo hi j t o → d t ≤ d o + p j) (hF : ∀ t, t < N → f0 t ≤ 536870912) (I0 : MI) (J : MJ) (hm : msC N M lo hi p I0) : ∀ q k f x4 I, k ≤ M → M < q + k → (∀ a, a ≠ 33 → I a = I0 a) → (∀ t, t < N → I 33 t = nI (f t)) → (x4 = 0 ∨ x4 = 1) → (x4 = 0 → f = f0) → RdK N M lo hi A p d (fun j => j < k) f0 f → ∃ x4' f' I', lX8_measure_26 n k6 q x2 x4 x5 (nI k) I J = k6 x2 x4' (x5 + 1) I' J ∧ (∀ a, a ≠ 33 → I' a = I0 a) ∧ (∀ t, t < N → I' 33 t = nI (f' t)) ∧ (x4' = 0 ∨ x4' = 1) ∧ (x4' = 0 → f' = f0) ∧ RdK N M lo hi A p d (fun j => j < M) f0 f' := by
  intro q
  induction q with
  | zero => intro k f x4 I h1 h2; omega
  | succ q ih =>
    intro k f x4 I h1 h2 hI h33 hx hxf hR
    have e : ∀ a b M', lX8_measure_26 n k6 (q + 1) x2 a x5 b M' J = fX8_measure_26 n k6 (lX8_measure_26 n k6 q) x2 a x5 b M' J := fun _ _ _ => rfl
    rw [e]
    unfold fX8_measure_26 fX8_measure_60 fX8_measure_61
    rw [hI 16 (by decide), hm.2.1]
    by_cases hk : k = M
    · subst hk
      rw [if_pos (Int32.le_refl _)]
      simp only [lt]
      have hR0 : RdK N k lo hi A p d (fun _ => True) f0 f := ⟨hR.1, hR.2.1, fun j hj _ hAj => hR.2.2 j hj hj hAj⟩
      obtain ⟨x4', f', I', y1, y2, y3, y4, y5, y6⟩ := m78_ok n (k6 := k6) (x5 := x5) hN hM hg hA hd hF I0 J hm n k f x4 I (Nat.le_refl _) (by omega) hI h33 hx hxf hR0
      exact ⟨x4', f', I', y1, y2, y3, y4, y5, y6.1, y6.2.1, fun j hj _ hAj => y6.2.2 j hj trivial hAj⟩
    · have hkM : k < M := by omega
      rw [if_neg (nI_ge (by omega) (by omega)), hasBit_eq n x2 (by omega), nI_1]
      simp only [Option.bind_some, lt]
      by_cases hb : bl x2 k = true
      · obtain ⟨y1, y2, y3, y4⟩ := hm.2.2 k hkM
        obtain ⟨v, I', z1, z2, z3, z4, z5⟩ := relaxC_ok n hN hM hkM hg I J (by rw [hI 19 (by decide)]; exact y1) (by rw [hI 20 (by decide)]; exact y2) (by rw [hI 32 (by decide)]; exact y3) y4 h33 (fun t ht => Nat.le_trans (hR.1 t) (hF t ht))
        have hR' := RdK_step (k := k) (K' := fun j => j < k + 1) hg hd hkM ((hA k hkM).mp hb) (fun j hj => by
          by_cases q : j = k
          · exact Or.inl q
          · exact Or.inr (show j < k by have : j < k + 1 := hj; omega)) hR
        rw [b2_t hb, if_neg (by decide), z1]
        simp only [Option.bind_some]
        rcases z2 with rfl | rfl
        · rw [if_pos rfl]
          have o01 := or01 hx (Or.inl rfl : (0 : Int32) = 0 ∨ (0 : Int32) = 1)
          exact ih (k + 1) _ _ I' (by omega) (by omega) (fun a ha => by rw [z4 a ha]; exact hI a ha) z5 o01.1 (fun w => by rw [z3 rfl]; exact hxf (o01.2 w).1) hR'
        · rw [if_neg (by decide)]
          have o01 := or01 hx (Or.inr rfl : (1 : Int32) = 0 ∨ (1 : Int32) = 1)
          exact ih (k + 1) _ _ I' (by omega) (by omega) (fun a ha => by rw [z4 a ha]; exact hI a ha) z5 o01.1 (fun w => absurd (o01.2 w).2 (by decide)) hR'
      · have hR' := RdK_skip (k := k) (K' := fun j => j < k + 1) (fun z => hb ((hA k hkM).mpr z)) (fun j hj => by
          by_cases q : j = k
          · exact Or.inl q
          · exact Or.inr (show j < k by have : j < k + 1 := hj; omega)) hR
        rw [b2_f hb, if_pos rfl]
        have o01 := or01 hx (Or.inl rfl : (0 : Int32) = 0 ∨ (0 : Int32) = 1)
        exact ih (k + 1) _ _ I (by omega) (by omega) hI h33 o01.1 (fun w => hxf (o01.2 w).1) hR'
theorem measC_ok (n : Nat) (hn : 2400 < n) {N M : Nat} {lo hi p d f : Nat → Nat} {A S : Nat → Prop} {x2 : Int64} (hN : N ≤ 36) (hM : M ≤ 60) (hg : ∀ j, j < M → lo j < N ∧ hi j < N ∧ lo j ≠ hi j) (hA : ∀ j, j < M → (bl x2 j = true ↔ A j)) (hp : ∀ j, j < M → A j → 1 ≤ p j) (I : MI) (J : MJ) (hm : msC N M lo hi p I) (hD : isD N M lo hi A p S 536870912 d) (hz : ∀ t, t < N → S t → f t = 0) (hl : ∀ t, t < N → d t ≤ f t) (hF : ∀ t, t < N → f t ≤ 536870912) (h33 : ∀ t, t < N → I 33 t = nI (f t)) : ∃ I', fX8_measure n x2 I J = some (I', J) ∧ (∀ a, a ≠ 33 → I' a = I a) ∧ ∀ t, t < N → I' 33 t = nI (d t) := by
  have l : ∀ q r g x4 I1, r ≤ N → N < q + r → (∀ a, a ≠ 33 → I1 a = I a) → (∀ t, t < N → I1 33 t = nI (g t)) → rdS N S 536870912 d r g → (x4 = 0 → ∀ t, t < N → g t = d t) → ∃ I', lX8_measure_6 n q x2 x4 (nI r) I1 J = some (I', J) ∧ (∀ a, a ≠ 33 → I' a = I a) ∧ ∀ t, t < N → I' 33 t = nI (d t) := by
    intro q
    induction q with
    | zero => intro r g x4 I1 h1 h2; omega
    | succ q ih =>
      intro r g x4 I1 h1 h2 f1 f2 hr hx
      have e : ∀ a b M', lX8_measure_6 n (q + 1) x2 a b M' J = fX8_measure_6 n (lX8_measure_6 n q) x2 a b M' J := fun _ _ _ => rfl
      rw [e]
      unfold fX8_measure_6
      rw [f1 16 (by decide), hm.1]
      by_cases hk : r = N
      · rw [if_pos (nI_le (by omega) (by omega))]
        exact ⟨I1, rfl, f1, fun t ht => by rw [f2 t ht, rdS_end hD.2.1 (by omega) hr t ht]⟩
      rw [if_neg (nI_ge (by omega) (by omega))]
      by_cases h0 : x4 = 0
      · rw [if_pos h0]
        exact ⟨I1, rfl, f1, fun t ht => by rw [f2 t ht, hx h0 t ht]⟩
      rw [if_neg h0]
      obtain ⟨x4', g', I', y1, y2, y3, y4, y5, y6⟩ := m26_ok n hn (k6 := lX8_measure_6 n q) (x2 := x2) (x5 := nI r) hN hM hg hA hD.2.2.1 hr.2.2.1 I1 J (msC_fr f1 hm) n 0 g 0 I1 (Nat.zero_le _) (by omega) (fun _ _ => rfl) f2 (Or.inl rfl) (fun _ => rfl) (RdK_0 (fun j => Nat.not_lt_zero j))
      have hr' := rdS_step hg hp hD (fun j hj => hj) y6 hr
      rw [nI_1] at y1
      have y1' : lX8_measure_26 n (lX8_measure_6 n q) n x2 0 (nI r) 0 I1 J = lX8_measure_6 n q x2 x4' (nI (r + 1)) I' J := y1
      rw [y1']
      refine ih (r + 1) g' x4' I' (by omega) (by omega) (fun a ha => by rw [y2 a ha]; exact f1 a ha) y3 hr' (fun w => ?_)
      have eg := y5 w
      rw [eg] at y6 hr' ⊢
      exact rdS_tri hg hp hD (fun j hj hAj => y6.2.2 j hj hj hAj) hr'
  exact l n 0 f 1 I (Nat.zero_le _) (by omega) (fun _ _ => rfl) h33 (rdS_0 hg hp hD hz hl hF) (fun z => absurd z (by decide))
/-! the reference -/
theorem ff50_ok (n : Nat) (hn : 2400 < n) {k40 : Int32 → MI → MJ → Option M2} {N M w h : Nat} {lo hi p d f0 : Nat → Nat} {x1 : Int32} (hN : N ≤ 36) (hM : M ≤ 60) (hg : ∀ j, j < M → lo j < N ∧ hi j < N ∧ lo j ≠ hi j) (hR : gfR n N M lo hi w h) (hd : ∀ j, j < M → ∀ t o, inc lo hi j t o → d t ≤ d o + p j) (hp : ∀ j, j < M → p j ≤ 1000000) (hF : ∀ t, t < N → f0 t ≤ 1000000000) (K0 : MI) (J : MJ) (e24 : K0 44 24 = nI w) (e25 : K0 44 25 = nI h) (hpr : ∀ K : MI, (∀ a, a ≠ 65 → K a = K0 a) → ∀ j, j < M → fX10_price n (nI j) K J = some (nI (p j), K, J)) : ∀ q k f K, k ≤ M → M < q + k → (∀ a, a ≠ 65 → K a = K0 a) → (∀ t, t < N → K 65 t = nI (f t)) → RdK N M lo hi (fun _ => True) p d (fun j => j < k) f0 f → ∃ f' K', lX10_findFar_50 n k40 q x1 (nI k) K J = k40 (x1 + 1) K' J ∧ (∀ a, a ≠ 65 → K' a = K0 a) ∧ (∀ t, t < N → K' 65 t = nI (f' t)) ∧ RdK N M lo hi (fun _ => True) p d (fun j => j < M) f0 f' := by
  intro q
  induction q with
  | zero => intro k f K h1 h2; omega
  | succ q ih =>
    intro k f K h1 h2 hK h65 hRd
    have e : ∀ b M', lX10_findFar_50 n k40 (q + 1) x1 b M' J = fX10_findFar_50 n k40 (lX10_findFar_50 n k40 q) x1 b M' J := fun _ _ => rfl
    obtain ⟨r1, r2, r3⟩ := hR K J (by rw [hK 44 (by decide)]; exact e24) (by rw [hK 44 (by decide)]; exact e25)
    rw [e]
    unfold fX10_findFar_50 fX10_findFar_112 fX10_findFar_153
    rw [r2]
    simp only [Option.bind_some]
    by_cases hk : k = M
    · subst hk
      rw [if_pos (Int32.le_refl _)]
      exact ⟨f, K, rfl, hK, h65, hRd⟩
    have hkM : k < M := by omega
    obtain ⟨g1, g2, g3⟩ := hg k hkM
    have il : inb (nI (lo k)) 36 = true := inb_nI (by omega) (by decide)
    have ih' : inb (nI (hi k)) 36 = true := inb_nI (by omega) (by decide)
    have b1 := Nat.le_trans (hRd.1 (lo k)) (hF (lo k) g1)
    have b2' := Nat.le_trans (hRd.1 (hi k)) (hF (hi k) g2)
    have bp := hp k hkM
    have hR' := RdK_step (k := k) (K' := fun j => j < k + 1) hg (fun j hj _ => hd j hj) hkM trivial (fun j hj => by
      by_cases q : j = k
      · exact Or.inl q
      · exact Or.inr (show j < k by have : j < k + 1 := hj; omega)) hRd
    rw [if_neg (nI_ge (by omega) (by omega)), (r3 k hkM).1]
    simp only [Option.bind_some, lt]
    rw [(r3 k hkM).2]
    simp only [Option.bind_some, il, ih', if_true, hpr K hK k hkM]
    simp only [clampI (show lo k < 2 ^ 31 by omega), clampI (show hi k < 2 ^ 31 by omega), h65 _ g1, h65 _ g2, nI_add, nI_1]
    unfold rlx at hR'
    by_cases c1 : f (lo k) + p k < f (hi k)
    · rw [if_neg (fun z => by rw [nI_leI (by omega) (by omega)] at z; omega)]
      rw [if_pos c1] at hR'
      obtain ⟨K1, hK1⟩ : ∃ K1, K1 = upM K 65 (hi k) (nI (f (lo k) + p k)) := ⟨_, rfl⟩
      have k1a : ∀ a, a ≠ 65 → K1 a = K0 a := fun a ha => by rw [hK1, upM_ne a ha]; exact hK a ha
      have k1b : ∀ t, t < N → K1 65 t = nI (upf f (hi k) (f (lo k) + p k) t) := fun t ht => by
        rw [hK1, upM_get, if_pos rfl]
        by_cases q : t = hi k
        · rw [if_pos q, q, upf_t]
        · rw [if_neg q, upf_n q]; exact h65 t ht
      rw [← hK1, hpr K1 k1a k hkM]
      simp only [Option.bind_some]
      rw [k1b _ g1, k1b _ g2, upf_t, upf_n g3, nI_add, if_pos (nI_le (by omega) (by omega))]
      exact ih (k + 1) _ K1 (by omega) (by omega) k1a k1b hR'
    · rw [if_pos (nI_le (by omega) (by omega))]
      rw [if_neg c1] at hR'
      by_cases c2 : f (hi k) + p k < f (lo k)
      · rw [if_neg (fun z => by rw [nI_leI (by omega) (by omega)] at z; omega)]
        rw [if_pos c2] at hR'
        refine ih (k + 1) _ _ (by omega) (by omega) (fun a ha => by rw [upM_ne a ha]; exact hK a ha) (fun t ht => ?_) hR'
        rw [upM_get, if_pos rfl]
        by_cases q : t = lo k
        · rw [if_pos q, q, upf_t]
        · rw [if_neg q, upf_n q]; exact h65 t ht
      · rw [if_pos (nI_le (by omega) (by omega))]
        rw [if_neg c2] at hR'
        exact ih (k + 1) f K (by omega) (by omega) hK h65 hR'
theorem findFar_ok (n : Nat) (hn : 2400 < n) {N M w h : Nat} {lo hi p d : Nat → Nat} {S : Nat → Bool} (hN : N ≤ 36) (hM : M ≤ 60) (hg : ∀ j, j < M → lo j < N ∧ hi j < N ∧ lo j ≠ hi j) (hR : gfR n N M lo hi w h) (hp : ∀ j, j < M → 1 ≤ p j ∧ p j ≤ 1000000) (K0 : MI) (J : MJ) (e24 : K0 44 24 = nI w) (e25 : K0 44 25 = nI h) (hpr : ∀ K : MI, (∀ a, a ≠ 65 → K a = K0 a) → ∀ j, j < M → fX10_price n (nI j) K J = some (nI (p j), K, J)) (h66 : ∀ t, t < N → K0 66 t = bi (S t)) (hD : isD N M lo hi (fun _ => True) p (fun t => S t = true) 1000000000 d) : ∃ K', fX10_findFar n K0 J = some (K', J) ∧ (∀ a, a ≠ 65 → K' a = K0 a) ∧ ∀ t, t < N → K' 65 t = nI (d t) := by
  have hp1 : ∀ j, j < M → (fun _ => True) j → 1 ≤ p j := fun j hj _ => (hp j hj).1
  have l2 : ∀ q r g K, r ≤ N → N < q + r → (∀ a, a ≠ 65 → K a = K0 a) → (∀ t, t < N → K 65 t = nI (g t)) → rdS N (fun t => S t = true) 1000000000 d r g → ∃ K', lX10_findFar_40 n q (nI r) K J = some (K', J) ∧ (∀ a, a ≠ 65 → K' a = K0 a) ∧ ∀ t, t < N → K' 65 t = nI (d t) := by
    intro q
    induction q with
    | zero => intro r g K h1 h2; omega
    | succ q ih =>
      intro r g K h1 h2 hK h65 hr
      have e : ∀ b M', lX10_findFar_40 n (q + 1) b M' J = fX10_findFar_40 n (lX10_findFar_40 n q) b M' J := fun _ _ => rfl
      obtain ⟨r1, r2, r3⟩ := hR K J (by rw [hK 44 (by decide)]; exact e24) (by rw [hK 44 (by decide)]; exact e25)
      rw [e]
      unfold fX10_findFar_40
      rw [r1]
      simp only [Option.bind_some]
      by_cases hk : r = N
      · rw [if_pos (nI_le (by omega) (by omega))]
        exact ⟨K, rfl, hK, fun t ht => by rw [h65 t ht, rdS_end hD.2.1 (by omega) hr t ht]⟩
      rw [if_neg (nI_ge (by omega) (by omega))]
      obtain ⟨g', K', y1, y2, y3, y4⟩ := ff50_ok n hn (k40 := lX10_findFar_40 n q) (x1 := nI r) hN hM hg hR (fun j hj => hD.2.2.1 j hj trivial) (fun j hj => (hp j hj).2) hr.2.2.1 K0 J e24 e25 hpr n 0 g K (Nat.zero_le _) (by omega) hK h65 (RdK_0 (fun j => Nat.not_lt_zero j))
      rw [nI_1] at y1
      have y1' : lX10_findFar_50 n (lX10_findFar_40 n q) n (nI r) 0 K J = lX10_findFar_40 n q (nI (r + 1)) K' J := y1
      rw [y1']
      exact ih (r + 1) g' K' (by omega) (by omega) y2 y3 (rdS_step hg hp1 hD (fun j hj => hj) y4 hr)
  have l1 : ∀ q k K, k ≤ N → N < q + k → (∀ a, a ≠ 65 → K a = K0 a) → (∀ t, t < k → K 65 t = nI (if S t = true then 0 else 1000000000)) → ∃ K', lX10_findFar_2 n q (nI k) K J = some (K', J) ∧ (∀ a, a ≠ 65 → K' a = K0 a) ∧ ∀ t, t < N → K' 65 t = nI (d t) := by
    intro q
    induction q with
    | zero => intro k K h1 h2; omega
    | succ q ih =>
      intro k K h1 h2 hK h65
      have e : ∀ b M', lX10_findFar_2 n (q + 1) b M' J = fX10_findFar_2 n (lX10_findFar_2 n q) b M' J := fun _ _ => rfl
      obtain ⟨r1, r2, r3⟩ := hR K J (by rw [hK 44 (by decide)]; exact e24) (by rw [hK 44 (by decide)]; exact e25)
      rw [e]
      unfold fX10_findFar_2 fX10_findFar_31
      rw [r1]
      simp only [Option.bind_some]
      by_cases hk : k = N
      · subst hk
        rw [if_pos (Int32.le_refl _)]
        refine l2 n 0 (fun t => if S t = true then 0 else 1000000000) K (Nat.zero_le _) (by omega) hK h65 (rdS_0 hg hp1 hD (fun t _ hS => if_pos hS) (fun t ht => ?_) (fun t _ => ?_))
        · by_cases hS : S t = true
          · rw [hD.1 t ht hS]; exact Nat.zero_le _
          · show d t ≤ if S t = true then 0 else 1000000000
            rw [if_neg hS]; exact hD.2.1 t ht
        · show (if S t = true then 0 else 1000000000) ≤ 1000000000
          split <;> omega
      have hkN : k < N := by omega
      have ik : inb (nI k) 36 = true := inb_nI (by omega) (by decide)
      rw [if_neg (nI_ge (by omega) (by omega)), clampI (by omega), hK 66 (by decide), h66 k hkN, nI_1]
      simp only [ik, if_true, lt]
      have put : ∀ x : Nat, x = (if S k = true then 0 else 1000000000) → ∃ K', lX10_findFar_2 n q (nI (k + 1)) (upM K 65 k (nI x)) J = some (K', J) ∧ (∀ a, a ≠ 65 → K' a = K0 a) ∧ ∀ t, t < N → K' 65 t = nI (d t) := by
        intro x hx
        refine ih (k + 1) _ (by omega) (by omega) (fun a ha => by rw [upM_ne a ha]; exact hK a ha) (fun t ht => ?_)
        rw [upM_get, if_pos rfl]
        by_cases q : t = k
        · rw [if_pos q, q, hx]
        · rw [if_neg q]; exact h65 t (by omega)
      cases hS : S k with
      | true =>
        rw [if_neg (by decide)]
        exact put 0 (by rw [hS]; rfl)
      | false =>
        rw [if_pos (by decide)]
        exact put 1000000000 (by rw [hS]; rfl)
  exact l1 n 0 K0 (Nat.zero_le _) (by omega) (fun _ _ => rfl) (fun t ht => absurd ht (Nat.not_lt_zero _))
