/-! longest -/
def mxE (f : Nat → Nat) (E : Int64) : Nat → Nat
  | 0 => 0
  | k + 1 => if bl E k = true then max (mxE f E k) (f k) else mxE f E k
theorem mxE_le {f : Nat → Nat} {E : Int64} {b : Nat} : ∀ k, (∀ t, t < k → bl E t = true → f t ≤ b) → mxE f E k ≤ b := by
  intro k
  induction k with
  | zero => intro _; exact Nat.zero_le _
  | succ k ih =>
    intro h
    have h1 := ih (fun t ht => h t (by omega))
    show (if bl E k = true then max (mxE f E k) (f k) else mxE f E k) ≤ b
    by_cases q : bl E k = true
    · have := h k (by omega) q
      rw [if_pos q]; omega
    · rw [if_neg q]; exact h1
theorem mxE_cg {f g : Nat → Nat} {E : Int64} : ∀ k, (∀ t, t < k → bl E t = true → f t = g t) → mxE f E k = mxE g E k := by
  intro k
  induction k with
  | zero => intro _; rfl
  | succ k ih =>
    intro h
    have h1 := ih (fun t ht => h t (by omega))
    show (if bl E k = true then max (mxE f E k) (f k) else mxE f E k) = (if bl E k = true then max (mxE g E k) (g k) else mxE g E k)
    by_cases q : bl E k = true
    · rw [if_pos q, if_pos q, h1, h k (by omega) q]
    · rw [if_neg q, if_neg q, h1]
theorem mx_lt {a b : Nat} (ha : a < 2 ^ 31) (hb : b < 2 ^ 31) : (if nI a < nI b then nI b else nI a) = nI (max a b) := by
  by_cases h : a < b
  · rw [if_pos (nI_lt h hb), Nat.max_eq_right (by omega)]
  · rw [if_neg (nI_nlt (by omega) (by omega)), Nat.max_eq_left (by omega)]
/-- unit prices: what is reached at all is near -/
theorem unit_rk {N M : Nat} {lo hi d : Nat → Nat} {A S : Nat → Prop} {F : Nat} (hg : ∀ j, j < M → lo j < N ∧ hi j < N ∧ lo j ≠ hi j) (hD : isD N M lo hi A (fun _ => 1) S F d) : ∀ k t, t < N → d t < F → d t < k → d t ≤ rkD N d t := by
  intro k
  induction k with
  | zero => intro t _ _ h; omega
  | succ k ih =>
    intro t ht hF hk
    by_cases hS : S t
    · rw [hD.1 t ht hS]; exact Nat.zero_le _
    · obtain ⟨j, o, q1, q2, q3, q4⟩ := hD.2.2.2 t ht hS hF
      have q4' : d t = d o + 1 := q4
      have ho := (inc_N hg q1 q3).2.1
      have h1 := ih o ho (by omega) (by omega)
      have h2 := rkD_lt (N := N) (d := d) (t := t) ho (by omega)
      omega
theorem rch_b {N M r : Nat} {lo hi d : Nat → Nat} {A : Nat → Prop} {S : Nat → Prop} {F : Nat} {lo' hi' : Nat → Int32} {A' : Nat → Prop} (hN : N ≤ 36) (hF : 100 < F) (hg : ∀ j, j < M → lo j < N ∧ hi j < N ∧ lo j ≠ hi j) (hD : isD N M lo hi A (fun _ => 1) S F d) (hr : r < N) (hS : S r) (hA : ∀ j, A' j → j < M ∧ A j ∧ lo' j = nI (lo j) ∧ hi' j = nI (hi j)) : ∀ k x, rch lo' hi' A' (nI r) k x → ∃ t, t < N ∧ x = nI t ∧ d t ≤ 36 := by
  have near : ∀ t, t < N → d t ≤ 37 → d t ≤ 36 := fun t ht h => by
    have h1 := unit_rk hg hD (d t + 1) t ht (by omega) (by omega)
    have h2 := rkD_le N d t
    omega
  intro k
  induction k with
  | zero =>
    intro x h
    exact ⟨r, hr, h, by rw [hD.1 r hr hS]; exact Nat.zero_le _⟩
  | succ k ih =>
    intro x h
    rcases h with h | ⟨j, h1, h2⟩
    · exact ih x h
    · obtain ⟨q1, q2, q3, q4⟩ := hA j h1
      obtain ⟨g1, g2, g3⟩ := hg j q1
      rcases h2 with ⟨z1, z2⟩ | ⟨z1, z2⟩
      · obtain ⟨t, t1, t2, t3⟩ := ih _ z2
        have et : hi j = t := (nI_eq (by omega) (by omega)).mp (q4.symm.trans t2)
        have h3 : d (lo j) ≤ d (hi j) + 1 := hD.2.2.1 j q1 q2 (lo j) (hi j) (Or.inl ⟨rfl, rfl⟩)
        rw [et] at h3
        exact ⟨lo j, g1, by rw [← z1]; exact q3, near _ g1 (by omega)⟩
      · obtain ⟨t, t1, t2, t3⟩ := ih _ z2
        have et : lo j = t := (nI_eq (by omega) (by omega)).mp (q3.symm.trans t2)
        have h3 : d (hi j) ≤ d (lo j) + 1 := hD.2.2.1 j q1 q2 (hi j) (lo j) (Or.inr ⟨rfl, rfl⟩)
        rw [et] at h3
        exact ⟨hi j, g2, by rw [← z1]; exact q4, near _ g2 (by omega)⟩
/-- the class: the longest way of one wire -/
theorem lgC43 (n : Nat) (hn : 2400 < n) {N : Nat} {E : Int64} {d : Nat → Nat} (hN : N ≤ 36) (hd : ∀ t, t < N → bl E t = true → d t ≤ 36) (I : MI) (J : MJ) (h16 : I 16 1 = nI N) (h33 : ∀ t, t < N → I 33 t = nI (d t)) : ∀ q k, k ≤ N → N < q + k → lX8_longestOf_43 n q E (nI (mxE d E k)) (nI k) I J = some (nI (mxE d E N), I, J) := by
  intro q
  induction q with
  | zero => intro k h1 h2; omega
  | succ q ih =>
    intro k h1 h2
    have e : lX8_longestOf_43 n (q + 1) E (nI (mxE d E k)) (nI k) I J = fX8_longestOf_43 n (lX8_longestOf_43 n q) E (nI (mxE d E k)) (nI k) I J := rfl
    rw [e]
    unfold fX8_longestOf_43 fX8_longestOf_76
    rw [h16]
    by_cases hk : k = N
    · subst hk
      rw [if_pos (Int32.le_refl _)]
    have hkN : k < N := by omega
    have hml := mxE_le (f := d) (E := E) (b := 36) k (fun t ht => hd t (by omega))
    have e2 : mxE d E (k + 1) = if bl E k = true then max (mxE d E k) (d k) else mxE d E k := rfl
    have ih' := ih (k + 1) (by omega) (by omega)
    rw [if_neg (nI_ge (by omega) (by omega)), hasBit_eq n E (by omega), nI_1]
    simp only [Option.bind_some]
    by_cases hb : bl E k = true
    · have := hd k hkN hb
      rw [if_pos hb] at e2
      rw [b2_t hb, if_neg (by decide), if_pos (inb_nI (by omega) (by decide)), clampI (by omega), h33 k hkN, mx_lt (by omega) (by omega), ← e2]
      exact ih'
    · rw [if_neg hb] at e2
      rw [b2_f hb, if_pos rfl, ← e2]
      exact ih'
theorem lgC_ok (n : Nat) (hn : 2400 < n) {N M i r : Nat} {lo hi d : Nat → Nat} {E : Int64} {H : Nat → Nat → Bool} (hG : gfs N M lo hi) (hi32 : i < 32) (hr : r < N) (hD : isD N M lo hi (fun j => H i j = true) (fun _ => 1) (fun t => t = r) 536870912 d) (hd : ∀ t, t < N → bl E t = true → d t ≤ 36) (hE : ∀ x, x < 64 → bl E x = true → x < N) (I : MI) (J : MJ) (h16 : I 16 1 = nI N ∧ I 16 2 = nI M) (hj : ∀ j, j < M → I 19 j = nI (lo j) ∧ I 20 j = nI (hi j) ∧ I 32 j = 1) (h31 : ∀ j, j < 60 → bl (J 31 i) j = H i j) (h24 : I 24 i = nI r) (hends : fX5_endsOf n (nI i) I J = some (E, I, J)) : ∃ I', fX8_longestOf n (nI i) I J = some (nI (mxE d E N), I', J) ∧ ∀ a, a ≠ 33 → I' a = I a := by
  obtain ⟨⟨hN, hM⟩, hg, -, -⟩ := hG
  unfold fX8_longestOf
  rw [hends]
  simp only [Option.bind_some, lt]
  by_cases hz : E = 0
  · rw [if_pos ((lg_cmp_eq _ _).mpr hz)]
    refine ⟨I, ?_, fun _ _ => rfl⟩
    have : mxE d E N = 0 := by
      have := mxE_le (f := d) (E := E) (b := 0) N (fun t _ hb => by rw [hz, bl_0] at hb; cases hb)
      omega
    rw [this]
    rfl
  rw [if_neg (fun z => hz ((lg_cmp_eq _ _).mp z))]
  have ii : inb (nI i) 32 = true := inb_nI hi32 (by decide)
  obtain ⟨I1, p1, p2, p3⟩ := plant_ok n hn (show r < 36 by omega) I J
  rw [clampI (by omega), h24]
  simp only [ii, if_true]
  rw [p1]
  simp only [Option.bind_some]
  obtain ⟨I2, m1, m2, m3⟩ := measC_ok n hn (x2 := J 31 i) (p := fun _ => 1) (f := fun t => if t = r then 0 else 536870912) hN hM hg (A := fun j => H i j = true) (fun j hj' => by rw [h31 j (by omega)]) (fun j _ _ => Nat.le_refl _) I1 J (by
    refine ⟨by rw [p2 16 (by decide)]; exact h16.1, by rw [p2 16 (by decide)]; exact h16.2, fun j hj' => ?_⟩
    obtain ⟨y1, y2, y3⟩ := hj j hj'
    exact ⟨by rw [p2 19 (by decide)]; exact y1, by rw [p2 20 (by decide)]; exact y2, by rw [p2 32 (by decide)]; exact y3, show (1 : Nat) ≤ 1000000 by decide⟩) hD (fun t _ hS => if_pos hS) (fun t ht => by
    show d t ≤ if t = r then 0 else 536870912
    by_cases q : t = r
    · rw [if_pos q, hD.1 t ht q]; exact Nat.le_refl _
    · rw [if_neg q]; exact hD.2.1 t ht) (fun t _ => by
    show (if t = r then 0 else 536870912) ≤ 536870912
    split <;> omega) (fun t ht => p3 t (by omega))
  rw [m1]
  simp only [Option.bind_some]
  refine ⟨I2, ?_, fun a ha => by rw [m2 a ha]; exact p2 a ha⟩
  exact lgC43 n hn hN hd I2 J (by rw [m2 16 (by decide), p2 16 (by decide)]; exact h16.1) m3 n 0 (Nat.zero_le _) (by omega)
/-! the reference -/
theorem lg64_ok (n : Nat) (hn : 2400 < n) {k52 : Int32 → Int64 → Int32 → MI → MJ → Option (Int32 × M2)} {N M w h i : Nat} {lo hi d f0 : Nat → Nat} {H : Nat → Nat → Bool} {x2 : Int64} {x4 : Int32} (hN : N ≤ 36) (hM : M ≤ 60) (hg : ∀ j, j < M → lo j < N ∧ hi j < N ∧ lo j ≠ hi j) (hR : gfR n N M lo hi w h) (hi32 : i < 32) (hd : ∀ j, j < M → H i j = true → ∀ t o, inc lo hi j t o → d t ≤ d o + (fun _ => 1) j) (hF : ∀ t, t < N → f0 t ≤ 1000) (K0 : MI) (J : MJ) (e24 : K0 44 24 = nI w) (e25 : K0 44 25 = nI h) (h62 : ∀ j, j < 60 → K0 62 (60 * i + j) = bi (H i j)) : ∀ q k f K, k ≤ M → M < q + k → (∀ a, a ≠ 65 → K a = K0 a) → (∀ t, t < N → K 65 t = nI (f t)) → RdK N M lo hi (fun j => H i j = true) (fun _ => 1) d (fun j => j < k) f0 f → ∃ f' K', lX10_longestOf_64 n k52 q (nI i) x2 x4 (nI k) K J = k52 (nI i) x2 (x4 + 1) K' J ∧ (∀ a, a ≠ 65 → K' a = K0 a) ∧ (∀ t, t < N → K' 65 t = nI (f' t)) ∧ RdK N M lo hi (fun j => H i j = true) (fun _ => 1) d (fun j => j < M) f0 f' := by
  intro q
  induction q with
  | zero => intro k f K h1 h2; omega
  | succ q ih =>
    intro k f K h1 h2 hK h65 hRd
    have e : ∀ b M', lX10_longestOf_64 n k52 (q + 1) (nI i) x2 x4 b M' J = fX10_longestOf_64 n k52 (lX10_longestOf_64 n k52 q) (nI i) x2 x4 b M' J := fun _ _ => rfl
    obtain ⟨r1, r2, r3⟩ := hR K J (by rw [hK 44 (by decide)]; exact e24) (by rw [hK 44 (by decide)]; exact e25)
    rw [e]
    unfold fX10_longestOf_64 fX10_longestOf_142 fX10_longestOf_177
    rw [r2]
    simp only [Option.bind_some]
    by_cases hk : k = M
    · subst hk
      rw [if_pos (Int32.le_refl _)]
      exact ⟨f, K, rfl, hK, h65, hRd⟩
    have hkM : k < M := by omega
    obtain ⟨g1, g2, g3⟩ := hg k hkM
    have il : inb (nI (lo k)) 36 = true := inb_nI (by omega) (by decide)
    have ih' : inb (nI (hi k)) 36 = true := inb_nI (by omega) (by decide)
    have e60 : (60 : Int32) * nI i + nI k = nI (60 * i + k) := by rw [show (60 : Int32) = nI 60 from rfl, pk_mul, nI_add]
    have i19 : inb (nI (60 * i + k)) 1920 = true := inb_nI (by omega) (by decide)
    have b1 := Nat.le_trans (hRd.1 (lo k)) (hF (lo k) g1)
    have b2' := Nat.le_trans (hRd.1 (hi k)) (hF (hi k) g2)
    have hKs : ∀ j, j < k + 1 → j = k ∨ j < k := fun j hj => by omega
    rw [if_neg (nI_ge (by omega) (by omega)), (r3 k hkM).1]
    simp only [Option.bind_some, lt]
    rw [(r3 k hkM).2]
    simp only [Option.bind_some, il, ih', if_true]
    rw [e60]
    simp only [i19, if_true]
    simp only [clampI (show 60 * i + k < 2 ^ 31 by omega), clampI (show lo k < 2 ^ 31 by omega), clampI (show hi k < 2 ^ 31 by omega), hK 62 (by decide), h62 k (by omega), h65 _ g1, h65 _ g2, nI_1]
    cases hH : H i k with
    | false =>
      rw [if_pos (by decide)]
      exact ih (k + 1) f K (by omega) (by omega) hK h65 (RdK_skip (k := k) (by rw [hH]; decide) hKs hRd)
    | true =>
      rw [if_neg (by decide)]
      have hR' := RdK_step (k := k) (K' := fun j => j < k + 1) hg hd hkM hH hKs hRd
      unfold rlx at hR'
      by_cases c1 : f (lo k) + 1 < f (hi k)
      · rw [if_neg (fun z => by rw [nI_leI (by omega) (by omega)] at z; omega)]
        rw [if_pos c1] at hR'
        obtain ⟨K1, hK1⟩ : ∃ K1, K1 = upM K 65 (hi k) (nI (f (lo k) + 1)) := ⟨_, rfl⟩
        have k1a : ∀ a, a ≠ 65 → K1 a = K0 a := fun a ha => by rw [hK1, upM_ne a ha]; exact hK a ha
        have k1b : ∀ t, t < N → K1 65 t = nI (upf f (hi k) (f (lo k) + 1) t) := fun t ht => by
          rw [hK1, upM_get, if_pos rfl]
          by_cases q : t = hi k
          · rw [if_pos q, q, upf_t]
          · rw [if_neg q, upf_n q]; exact h65 t ht
        rw [← hK1]
        simp only [k1b _ g1, k1b _ g2, upf_t, upf_n g3, nI_1]
        rw [if_pos (nI_le (by omega) (by omega))]
        exact ih (k + 1) _ K1 (by omega) (by omega) k1a k1b hR'
      · rw [if_pos (nI_le (by omega) (by omega))]
        rw [if_neg c1] at hR'
        by_cases c2 : f (hi k) + 1 < f (lo k)
        · rw [if_neg (fun z => by rw [nI_leI (by omega) (by omega)] at z; omega)]
          rw [if_pos c2] at hR'
          refine ih (k + 1) _ _ (by omega) (by omega) (fun a ha => by rw [upM_ne a ha]; exact hK a ha) (fun t ht => ?_) hR'
          rw [upM_get, if_pos rfl]
          by_cases q : t = lo k
          · rw [if_pos q, q, upf_t]
          · rw [if_neg q, upf_n q]; exact h65 t ht
        · rw [if_pos (nI_le (by omega) (by omega))]
          rw [if_neg c2] at hR'
          exact ih (k + 1) f K (by omega) (by omega) hK h65 hR'
theorem lgR195 (n : Nat) (hn : 2400 < n) {N M w h : Nat} {lo hi : Nat → Nat} {E : Int64} {d : Nat → Nat} (hN : N ≤ 36) (hR : gfR n N M lo hi w h) (hd : ∀ t, t < N → bl E t = true → d t ≤ 36) (K : MI) (J : MJ) (e24 : K 44 24 = nI w) (e25 : K 44 25 = nI h) (h65 : ∀ t, t < N → K 65 t = nI (d t)) : ∀ q k, k ≤ N → N < q + k → lX10_longestOf_195 n q E (nI (mxE d E k)) (nI k) K J = some (nI (mxE d E N), K, J) := by
  intro q
  induction q with
  | zero => intro k h1 h2; omega
  | succ q ih =>
    intro k h1 h2
    have e : lX10_longestOf_195 n (q + 1) E (nI (mxE d E k)) (nI k) K J = fX10_longestOf_195 n (lX10_longestOf_195 n q) E (nI (mxE d E k)) (nI k) K J := rfl
    rw [e]
    unfold fX10_longestOf_195 fX10_longestOf_236
    rw [(hR K J e24 e25).1]
    simp only [Option.bind_some]
    by_cases hk : k = N
    · subst hk
      rw [if_pos (Int32.le_refl _)]
    have hkN : k < N := by omega
    have ik : inb (nI k) 36 = true := inb_nI (by omega) (by decide)
    have hml := mxE_le (f := d) (E := E) (b := 36) k (fun t ht => hd t (by omega))
    have e2 : mxE d E (k + 1) = if bl E k = true then max (mxE d E k) (d k) else mxE d E k := rfl
    have ih' := ih (k + 1) (by omega) (by omega)
    rw [if_neg (nI_ge (by omega) (by omega)), shr_and E (by omega), nI_1]
    by_cases hb : bl E k = true
    · have := hd k hkN hb
      rw [if_pos hb] at e2
      rw [if_pos hb, if_pos ((lg_cmp_eq _ _).mpr rfl)]
      simp only [ik, if_true, lt]
      rw [clampI (by omega), h65 k hkN]
      by_cases hle : d k ≤ mxE d E k
      · rw [Nat.max_eq_left hle] at e2
        rw [if_pos (nI_le hle (by omega)), ← e2]
        exact ih'
      · rw [Nat.max_eq_right (by omega)] at e2
        rw [if_neg (nI_ge (by omega) (by omega)), ← e2]
        exact ih'
    · rw [if_neg hb] at e2
      rw [if_neg hb, if_neg (fun z => by rw [lg_cmp_eq] at z; exact absurd z (by decide)), ← e2]
      exact ih'
theorem lgR_ok (n : Nat) (hn : 2400 < n) {N M w h i r : Nat} {lo hi d : Nat → Nat} {E : Int64} {H : Nat → Nat → Bool} (hG : gfs N M lo hi) (hR : gfR n N M lo hi w h) (hi32 : i < 32) (hr : r < N) (hD : isD N M lo hi (fun j => H i j = true) (fun _ => 1) (fun t => t = r) 1000 d) (hd : ∀ t, t < N → bl E t = true → d t ≤ 36) (K0 : MI) (J : MJ) (e24 : K0 44 24 = nI w) (e25 : K0 44 25 = nI h) (h62 : ∀ j, j < 60 → K0 62 (60 * i + j) = bi (H i j)) (h61 : K0 61 i = nI r) (hends : fX10_endsOf n (nI i) K0 J = some (E, K0, J)) : ∃ K', fX10_longestOf n (nI i) K0 J = some (nI (mxE d E N), K', J) ∧ ∀ a, a ≠ 65 → K' a = K0 a := by
  obtain ⟨⟨hN, hM⟩, hg, -, -⟩ := hG
  have hp1 : ∀ j, j < M → (fun j => H i j = true) j → 1 ≤ (fun _ => 1) j := fun j _ _ => Nat.le_refl _
  have l2 : ∀ q r' g K, r' ≤ N → N < q + r' → (∀ a, a ≠ 65 → K a = K0 a) → (∀ t, t < N → K 65 t = nI (g t)) → rdS N (fun t => t = r) 1000 d r' g → ∃ K', lX10_longestOf_52 n q (nI i) E (nI r') K J = some (nI (mxE d E N), K', J) ∧ ∀ a, a ≠ 65 → K' a = K0 a := by
    intro q
    induction q with
    | zero => intro r' g K h1 h2; omega
    | succ q ih =>
      intro r' g K h1 h2 hK h65 hrd
      have e : ∀ b M', lX10_longestOf_52 n (q + 1) (nI i) E b M' J = fX10_longestOf_52 n (lX10_longestOf_52 n q) (nI i) E b M' J := fun _ _ => rfl
      have k24 : K 44 24 = nI w := by rw [hK 44 (by decide)]; exact e24
      have k25 : K 44 25 = nI h := by rw [hK 44 (by decide)]; exact e25
      rw [e]
      unfold fX10_longestOf_52
      rw [(hR K J k24 k25).1]
      simp only [Option.bind_some]
      by_cases hk : r' = N
      · rw [if_pos (nI_le (by omega) (by omega))]
        refine ⟨K, ?_, hK⟩
        exact lgR195 n hn hN hR hd K J k24 k25 (fun t ht => by rw [h65 t ht, rdS_end hD.2.1 (by omega) hrd t ht]) n 0 (Nat.zero_le _) (by omega)
      rw [if_neg (nI_ge (by omega) (by omega))]
      obtain ⟨g', K', y1, y2, y3, y4⟩ := lg64_ok n hn (k52 := lX10_longestOf_52 n q) (x2 := E) (x4 := nI r') hN hM hg hR hi32 (fun j hj hA => hD.2.2.1 j hj hA) hrd.2.2.1 K0 J e24 e25 h62 n 0 g K (Nat.zero_le _) (by omega) hK h65 (RdK_0 (fun j => Nat.not_lt_zero j))
      rw [nI_1] at y1
      have y1' : lX10_longestOf_64 n (lX10_longestOf_52 n q) n (nI i) E (nI r') 0 K J = lX10_longestOf_52 n q (nI i) E (nI (r' + 1)) K' J := y1
      rw [y1']
      exact ih (r' + 1) g' K' (by omega) (by omega) y2 y3 (rdS_step hg hp1 hD (fun j hj => hj) y4 hrd)
  have l1 : ∀ q k K, k ≤ N → N < q + k → (∀ a, a ≠ 65 → K a = K0 a) → (∀ t, t < k → K 65 t = nI (if t = r then 0 else 1000)) → ∃ K', lX10_longestOf_9 n q (nI i) E (nI k) K J = some (nI (mxE d E N), K', J) ∧ ∀ a, a ≠ 65 → K' a = K0 a := by
    intro q
    induction q with
    | zero => intro k K h1 h2; omega
    | succ q ih =>
      intro k K h1 h2 hK h65
      have e : ∀ b M', lX10_longestOf_9 n (q + 1) (nI i) E b M' J = fX10_longestOf_9 n (lX10_longestOf_9 n q) (nI i) E b M' J := fun _ _ => rfl
      rw [e]
      unfold fX10_longestOf_9 fX10_longestOf_42
      rw [(hR K J (by rw [hK 44 (by decide)]; exact e24) (by rw [hK 44 (by decide)]; exact e25)).1]
      simp only [Option.bind_some]
      by_cases hk : k = N
      · subst hk
        rw [if_pos (Int32.le_refl _)]
        refine l2 n 0 (fun t => if t = r then 0 else 1000) K (Nat.zero_le _) (by omega) hK h65 (rdS_0 hg hp1 hD (fun t _ hS => if_pos hS) (fun t ht => ?_) (fun t _ => ?_))
        · show d t ≤ if t = r then 0 else 1000
          by_cases q : t = r
          · rw [if_pos q, hD.1 t ht q]; exact Nat.le_refl _
          · rw [if_neg q]; exact hD.2.1 t ht
        · show (if t = r then 0 else 1000) ≤ 1000
          split <;> omega
      have ik : inb (nI k) 36 = true := inb_nI (by omega) (by decide)
      rw [if_neg (nI_ge (by omega) (by omega)), if_pos (inb_nI hi32 (by decide)), clampI (show i < 2 ^ 31 by omega), hK 61 (by decide), h61, clampI (show k < 2 ^ 31 by omega), nI_1]
      simp only [ik, if_true, lt]
      have put : ∀ x : Nat, x = (if k = r then 0 else 1000) → ∃ K', lX10_longestOf_9 n q (nI i) E (nI (k + 1)) (upM K 65 k (nI x)) J = some (nI (mxE d E N), K', J) ∧ ∀ a, a ≠ 65 → K' a = K0 a := by
        intro x hx
        refine ih (k + 1) _ (by omega) (by omega) (fun a ha => by rw [upM_ne a ha]; exact hK a ha) (fun t ht => ?_)
        rw [upM_get, if_pos rfl]
        by_cases q : t = k
        · rw [if_pos q, q, hx]
        · rw [if_neg q]; exact h65 t (by omega)
      by_cases hkr : k = r
      · rw [if_pos (by rw [hkr])]
        exact put 0 (if_pos hkr).symm
      · rw [if_neg (fun z => hkr ((nI_eq (by omega) (by omega)).mp z))]
        exact put 1000 (if_neg hkr).symm
  unfold fX10_longestOf
  rw [hends]
  simp only [Option.bind_some, lt]
  exact l1 n 0 K0 (Nat.zero_le _) (by omega) (fun _ _ => rfl) (fun t ht => absurd ht (Nat.not_lt_zero _))
def mxT (P : Nat → Bool) (L : Nat → Nat) : Nat → Nat
  | 0 => 0
  | k + 1 => if P k = true then max (mxT P L k) (L k) else mxT P L k
theorem mxT_le {P : Nat → Bool} {L : Nat → Nat} {b : Nat} : ∀ k, (∀ i, i < k → P i = true → L i ≤ b) → mxT P L k ≤ b := by
  intro k
  induction k with
  | zero => intro _; exact Nat.zero_le _
  | succ k ih =>
    intro h
    have h1 := ih (fun t ht => h t (by omega))
    show (if P k = true then max (mxT P L k) (L k) else mxT P L k) ≤ b
    by_cases q : P k = true
    · have := h k (by omega) q
      rw [if_pos q]; omega
    · rw [if_neg q]; exact h1
theorem B_longest_ok (n : Nat) (hn : 2400 < n) : B_longest Inv n := by
  intro m I J hI
  obtain ⟨pr, pq, pf, c', ni, nk, no, pn, ⟨pu, pg, pw, pp, pfr, pe⟩⟩ := id hI
  have f28 := pf.1.2.2.1
  unfold fX9_longest
  by_cases h28 : I 28 0 = 0
  · rw [if_pos h28, ref_2]
    simp only [Option.bind_some]
    refine rr (j := 0) (f := fX10_longest n) (by decide) hI ?_
    unfold fX10_longest
    rw [up43 (show (44 : Nat) ≠ 43 by decide), if_pos (by rw [← f28]; exact h28), no_2]
    rfl
  rw [if_neg h28]
  have h13 : I 44 13 = 1 := pf.2.1.2.2.1.resolve_left (by rw [← f28]; exact h28)
  have h12 := pf.2.2.2.1 h13
  obtain ⟨c, w, h, τ, hc, w1, w2, g1, g2, e5, e6, e24, e25, hcl, ho, hf, hff, ht⟩ := sctx2 hI h12
  have hc' := pn.1.1
  obtain rfl : c' = c := (nI_eq (by omega) (by omega)).mp (pn.2.1.1.symm.trans e5)
  have hwh := wh_le w2 g2
  obtain ⟨w', h', r', kc, ⟨w1', w2', g1', g2', -, -, k1', k2'⟩, ⟨e24', e25', -, e27'⟩, hgr, -⟩ := id pg
  obtain rfl : w' = w := (nI_eq (by omega) (by omega)).mp (e24'.symm.trans e24)
  obtain rfl : h' = h := (nI_eq (by omega) (by omega)).mp (e25'.symm.trans e25)
  have hM60 := jn_le w1 w2 g2
  obtain ⟨E, hE⟩ := ends_all n hn hc hwh J hcl e6 ho hf ht
  have hPt : ∀ i, thB I i = true ↔ thg I i := fun i => decide_eq_true_iff
  have hG := gr_fs w1 w2 g1 g2
  have hR := gr_R n w1 w2 g1 g2
  have hgC := gr_C w1 w2 g1 g2 hgr
  obtain ⟨pw1, pw2⟩ := pw h13
  obtain ⟨H, hH⟩ : ∃ H : Nat → Nat → Bool, H = fun i j => bl (J 31 i) j := ⟨_, rfl⟩
  have h62 : ∀ i, i < 32 → ∀ j, j < 60 → I 62 (60 * i + j) = bi (H i j) := by
    intro i hi j hj
    obtain ⟨q1, q2⟩ := pw2 i hi j hj
    rw [hH]
    show I 62 (60 * i + j) = bi (bl (J 31 i) j)
    rw [q2]
    rcases q1 with q | q
    · rw [q]; rfl
    · rw [q]; rfl
  /- each wire alike on both sides -/
  have one : ∀ i, ∃ L : Nat, i < c' → thg I i → L ≤ 36 ∧ (∀ I1 : MI, (∀ a, a ≠ 32 → a ≠ 33 → I1 a = I a) → (∀ j, j < 60 → I1 32 j = 1) → ∃ I2, fX8_longestOf n (nI i) I1 J = some (nI L, I2, J) ∧ ∀ a, a ≠ 33 → I2 a = I1 a) ∧ ∀ K : MI, (∀ a, a ≠ 32 → a ≠ 33 → a ≠ 65 → K a = I a) → ∃ K', fX10_longestOf n (nI i) K J = some (nI L, K', J) ∧ ∀ a, a ≠ 65 → K' a = K a := by
    intro i
    by_cases hh : i < c' ∧ thg I i
    · obtain ⟨hi, hti⟩ := hh
      obtain ⟨v1, v2, v3⟩ := hE i hi hti
      obtain ⟨ti, tib⟩ := ht i hi hti
      have hEN : ∀ y, y < 64 → bl (E i) y = true → y < w' * h' := fun y hy hb => by
        obtain ⟨⟨u, q1, q2, q3⟩, -⟩ := (v1 y hy).mp hb
        rw [← q3]
        exact (ht u q1 (hf u i q1 q2)).2
      obtain ⟨d1, hD1⟩ := isD_ex (N := w' * h') (M := jn w' h') (lo := gLo w' h') (hi := gHi w' h') (A := fun j => H i j = true) (p := fun _ => 1) (fun t => t = τ i) 536870912 hG.2.1
      obtain ⟨d2, hD2⟩ := isD_ex (N := w' * h') (M := jn w' h') (lo := gLo w' h') (hi := gHi w' h') (A := fun j => H i j = true) (p := fun _ => 1) (fun t => t = τ i) 1000 hG.2.1
      have near : ∀ (F : Nat) (d : Nat → Nat), 100 < F → isD (w' * h') (jn w' h') (gLo w' h') (gHi w' h') (fun j => H i j = true) (fun _ => 1) (fun t => t = τ i) F d → ∀ t, t < w' * h' → bl (E i) t = true → d t ≤ 36 := by
        intro F d hF hD t htN hb
        obtain ⟨⟨u, q1, q2, q3⟩, -⟩ := (v1 t (by omega)).mp hb
        obtain ⟨k, hk⟩ := pe.2.2.2.1.2 h13 i hi hti u q1 q2
        rw [ti] at hk
        obtain ⟨t', y1, y2, y3⟩ := rch_b hwh hF hG.2.1 hD tib rfl (fun j hj => by
          have hjM : j < jn w' h' := by
            have := hj.2.1
            rw [hgC.2.1] at this
            exact (nI_ltI (by omega) (by omega)).mp this
          refine ⟨hjM, ?_, (hgC.2.2.1 j hjM).1, (hgC.2.2.1 j hjM).2⟩
          have q := hj.2.2
          rw [h62 i (by omega) j hj.1] at q
          show H i j = true
          cases z : H i j with
          | true => rfl
          | false => rw [z] at q; exact absurd q (by decide)) k _ hk
        rw [(ht u q1 (hf u i q1 q2)).1, q3] at y2
        have : t = t' := (nI_eq (by omega) (by omega)).mp y2
        rw [this]; exact y3
      have n1 := near 536870912 d1 (by decide) hD1
      have n2 := near 1000 d2 (by decide) hD2
      have hp1 : ∀ j, j < jn w' h' → (fun j => H i j = true) j → 1 ≤ (fun _ => 1) j := fun j _ _ => Nat.le_refl _
      have same : mxE d2 (E i) (w' * h') = mxE d1 (E i) (w' * h') := mxE_cg _ (fun t htN hb => by
        have q1 := n1 t htN hb
        have q2 := n2 t htN hb
        have q3 := tri_le hG.2.1 hp1 hD1 hD2.1 hD2.2.2.1 (d1 t + 1) t htN (by omega) (by omega)
        have q4 := tri_le hG.2.1 hp1 hD2 hD1.1 hD1.2.2.1 (d2 t + 1) t htN (by omega) (by omega)
        omega)
      refine ⟨mxE d1 (E i) (w' * h'), fun _ _ => ⟨mxE_le _ n1, fun I1 f1 f32 => ?_, fun K fK => ?_⟩⟩
      · refine lgC_ok n hn hG (by omega) tib hD1 n1 hEN I1 J ⟨by rw [f1 16 (by decide) (by decide)]; exact hgC.1, by rw [f1 16 (by decide) (by decide)]; exact hgC.2.1⟩ (fun j hj => ⟨?_, ?_, f32 j (by omega)⟩) (fun j hj => by rw [hH]) ?_ (v2 I1 J (f1 24 (by decide) (by decide)) (f1 27 (by decide) (by decide)))
        · rw [f1 19 (by decide) (by decide)]; exact (hgC.2.2.1 j hj).1
        · rw [f1 20 (by decide) (by decide)]; exact (hgC.2.2.1 j hj).2
        · rw [f1 24 (by decide) (by decide)]; exact (hcl.2.2.2.1 i hi ((hPt i).mpr hti)).1
      · rw [← same]
        refine lgR_ok n hn hG hR (by omega) tib hD2 n2 K J (by rw [fK 44 (by decide) (by decide) (by decide)]; exact e24) (by rw [fK 44 (by decide) (by decide) (by decide)]; exact e25) (by rw [fK 62 (by decide) (by decide) (by decide)]; exact h62 i (by omega)) (by rw [fK 61 (by decide) (by decide) (by decide)]; exact ti) (v3 K J (fun a ha => ?_) (by rw [fK 44 (by decide) (by decide) (by decide)]))
        simp only [List.mem_cons, List.not_mem_nil, or_false] at ha
        exact fK a (by omega) (by omega) (by omega)
    · exact ⟨0, fun z1 z2 => absurd ⟨z1, z2⟩ hh⟩
  obtain ⟨L, hL⟩ : ∃ L : Nat → Nat, ∀ i, i < c' → thg I i → L i ≤ 36 ∧ (∀ I1 : MI, (∀ a, a ≠ 32 → a ≠ 33 → I1 a = I a) → (∀ j, j < 60 → I1 32 j = 1) → ∃ I2, fX8_longestOf n (nI i) I1 J = some (nI (L i), I2, J) ∧ ∀ a, a ≠ 33 → I2 a = I1 a) ∧ ∀ K : MI, (∀ a, a ≠ 32 → a ≠ 33 → a ≠ 65 → K a = I a) → ∃ K', fX10_longestOf n (nI i) K J = some (nI (L i), K', J) ∧ ∀ a, a ≠ 65 → K' a = K a := ⟨fun i => (one i).choose, fun i => (one i).choose_spec⟩
  have hmx : ∀ k, k ≤ c' → mxT (thB I) L k ≤ 36 := fun k hk => mxT_le k (fun i hi hP => (hL i (by omega) ((hPt i).mp hP)).1)
  have hTc := ct_cnt_le (thB I) c'
  /- the class -/
  have lc : ∀ d k q I1, k + d = c' → d < q → (∀ a, a ≠ 32 → a ≠ 33 → I1 a = I a) → (∀ j, j < 60 → I1 32 j = 1) → ∃ I2, lX8_longestOfAll_13 n q (nI (mxT (thB I) L k)) (nI (ct_cnt (thB I) k)) I1 J = some (nI (mxT (thB I) L c'), I2, J) ∧ ∀ a, a ≠ 32 → a ≠ 33 → I2 a = I a := by
    intro d
    induction d with
    | zero =>
      intro k q I1 hk hq f1 f32
      obtain ⟨q, rfl⟩ : ∃ z, q = z + 1 := ⟨q - 1, by omega⟩
      obtain rfl : k = c' := by omega
      have e : ∀ a b, lX8_longestOfAll_13 n (q + 1) a b I1 J = fX8_longestOfAll_13 n (lX8_longestOfAll_13 n q) a b I1 J := fun _ _ => rfl
      refine ⟨I1, ?_, f1⟩
      rw [e]
      unfold fX8_longestOfAll_13
      rw [f1 22 (by decide) (by decide), hcl.1, if_pos (Int32.le_refl _)]
    | succ d ih =>
      intro k q I1 hk hq f1 f32
      have hkc : k < c' := by omega
      have hs : ct_cnt (thB I) (k + 1) = if thB I k = true then ct_cnt (thB I) k + 1 else ct_cnt (thB I) k := rfl
      have hm : mxT (thB I) L (k + 1) = if thB I k = true then max (mxT (thB I) L k) (L k) else mxT (thB I) L k := rfl
      by_cases hP : thB I k = true
      · obtain ⟨q, rfl⟩ : ∃ z, q = z + 1 := ⟨q - 1, by omega⟩
        have e : ∀ a b, lX8_longestOfAll_13 n (q + 1) a b I1 J = fX8_longestOfAll_13 n (lX8_longestOfAll_13 n q) a b I1 J := fun _ _ => rfl
        rw [if_pos hP] at hs hm
        have hmono := ct_cnt_mono (thB I) (a := k + 1) c' (by omega)
        obtain ⟨l1, l2, -⟩ := hL k hkc ((hPt k).mp hP)
        obtain ⟨I2, y1, y2⟩ := l2 I1 f1 f32
        have hk36 := hmx k (by omega)
        rw [e]
        unfold fX8_longestOfAll_13
        rw [f1 22 (by decide) (by decide), hcl.1, if_neg (nI_ge (by omega) (by omega)), if_pos (inb_nI (by omega) (by decide)), clampI (by omega), f1 23 (by decide) (by decide), hcl.2.1 k hkc hP, y1]
        simp only [Option.bind_some, lt]
        rw [mx_lt (by omega) (by omega), nI_1, ← hm, ← hs]
        exact ih (k + 1) q I2 (by omega) (by omega) (fun a q1 q2 => by rw [y2 a q2]; exact f1 a q1 q2) (fun j hj => by rw [y2 32 (by decide)]; exact f32 j hj)
      · rw [if_neg hP] at hs hm
        rw [← hs, ← hm]
        exact ih (k + 1) q I1 (by omega) (by omega) f1 f32
  have hfc : ∀ a, a ≠ 32 → fillc I 32 60 1 a = I a := fun a ha => by funext b; exact if_neg (fun z => ha z.1)
  obtain ⟨I2, y1, y2⟩ := lc c' 0 n (fillc I 32 60 1) (by omega) (by omega) (fun a q1 _ => hfc a q1) (fun j hj => if_pos ⟨rfl, hj⟩)
  have hlc : fX8_longestOfAll n I J = some (nI (mxT (thB I) L c'), I2, J) := by
    unfold fX8_longestOfAll
    rw [fill_eq n 32 60 _ _ _ (by decide) (by decide) aln_32 (by omega)]
    simp only [Option.bind_some]
    exact y1
  rw [hlc]
  simp only [Option.bind_some]
  refine tot_some.mpr ?_
  show tot (fX10_longest n I2 J) (fun q => nI (mxT (thB I) L c') = q.1 ∧ Inv m q.2.1 q.2.2)
  /- the reference -/
  have lr : ∀ q k K, k ≤ c' → c' < q + k → (∀ a, a ≠ 32 → a ≠ 33 → a ≠ 65 → K a = I a) → ∃ K', lX10_longest_18 n q (nI (mxT (thB I) L k)) (nI k) K J = some (nI (mxT (thB I) L c'), K', J) ∧ ∀ a, a ≠ 32 → a ≠ 33 → a ≠ 65 → K' a = I a := by
    intro q
    induction q with
    | zero => intro k K h1 h2; omega
    | succ q ih =>
      intro k K h1 h2 fK
      have e : ∀ a b, lX10_longest_18 n (q + 1) a b K J = fX10_longest_18 n (lX10_longest_18 n q) a b K J := fun _ _ => rfl
      have hm : mxT (thB I) L (k + 1) = if thB I k = true then max (mxT (thB I) L k) (L k) else mxT (thB I) L k := rfl
      rw [e]
      unfold fX10_longest_18 fX10_longest_43 fX10_longest_54
      rw [fK 44 (by decide) (by decide) (by decide), e6]
      by_cases hk : k = c'
      · subst hk
        rw [if_pos (Int32.le_refl _)]
        exact ⟨K, rfl, fK⟩
      have hkc : k < c' := by omega
      have hk36 := hmx k (by omega)
      rw [if_neg (nI_ge (by omega) (by omega)), isThing_eq n (by omega), fK 45 (by decide) (by decide) (by decide), fK 55 (by decide) (by decide) (by decide), nI_1]
      simp only [Option.bind_some]
      by_cases hth : thg I k
      · obtain ⟨l1, -, l3⟩ := hL k hkc hth
        obtain ⟨K1, z1, z2⟩ := l3 K fK
        rw [if_pos ((hPt k).mpr hth)] at hm
        rw [b2_t hth, if_neg (by decide), z1]
        simp only [Option.bind_some]
        have ih' := ih (k + 1) K1 (by omega) (by omega) (fun a q1 q2 q3 => by rw [z2 a q3]; exact fK a q1 q2 q3)
        by_cases hle : L k ≤ mxT (thB I) L k
        · rw [Nat.max_eq_left hle] at hm
          rw [if_pos (nI_le hle (by omega)), ← hm]
          exact ih'
        · rw [Nat.max_eq_right (by omega)] at hm
          rw [if_neg (nI_ge (by omega) (by omega)), ← hm]
          exact ih'
      · rw [if_neg (fun z => hth ((hPt k).mp z))] at hm
        rw [b2_f hth, if_pos rfl, if_pos (nI_pos' (by omega)), ← hm]
        exact ih (k + 1) K (by omega) (by omega) fK
  obtain ⟨Z, z1, z2⟩ := lr n 0 I2 (Nat.zero_le _) (by omega) (fun a q1 q2 _ => y2 a q1 q2)
  have href : fX10_longest n I2 J = some (nI (mxT (thB I) L c'), Z, J) := by
    unfold fX10_longest
    rw [y2 44 (by decide) (by decide), if_neg (by rw [h13]; decide)]
    exact z1
  rw [href]
  refine tot_some.mpr ⟨rfl, ?_⟩
  show Inv m Z J
  have e : ∀ (l : List Nat), (∀ a ∈ l, a ≠ 32 ∧ a ≠ 33 ∧ a ≠ 65) → ∀ a ∈ l, Z a = I a := fun l hl a ha => z2 a (hl a ha).1 (hl a ha).2.1 (hl a ha).2.2
  have e44 : Z 44 = I 44 := z2 44 (by decide) (by decide) (by decide)
  have e11 : Z 11 = I 11 := z2 11 (by decide) (by decide) (by decide)
  have e16 : Z 16 = I 16 := z2 16 (by decide) (by decide) (by decide)
  have e22 : Z 22 = I 22 := z2 22 (by decide) (by decide) (by decide)
  have e28 : Z 28 = I 28 := z2 28 (by decide) (by decide) (by decide)
  have e34 : Z 34 = I 34 := z2 34 (by decide) (by decide) (by decide)
  exact ⟨PR_fr (e _ (by decide)) pr, PQ_fr (e _ (by decide)) (by rw [e44]) pq, Pf_fr (by rw [e11]) (by rw [e22]) (by rw [e28]) (by rw [e34]) (fun j _ => by rw [e44]) pf, c', ni, nk, no, PN_fr (e _ (by decide)) (fun j _ => by rw [e44]) pn, PU_fr (e _ (by decide)) (by rw [e34]) (fun j _ => by rw [e44]) (PU_dec pu), PG_fr (e _ (by decide)) (fun j _ => by rw [e44]) rfl pg, PW_fr (e _ (by decide)) (by rw [e44]) rfl pw, PP_fr (e _ (by decide)) (by rw [e44]) pp, PF_fr (e _ (by decide)) (by rw [e16]) (by rw [e44]) pfr, PK_fr (e _ (by decide)) (by rw [e44]) rfl pe.1, PT_fr (e _ (by decide)) (by rw [e11]) (by rw [e11]) (by rw [e44]) pe.2.1, PS_fr (e _ (by decide)) (by rw [e16]) (by rw [e22]) (by rw [e44]) pe.2.2.1, ⟨PB_fr (e _ (by decide)) (by rw [e44]) pe.2.2.2.1.1, PL_fr (e _ (by decide)) (by rw [e16]) (by rw [e44]) pe.2.2.2.1.2⟩, PC_fr (e [1] (by decide) 1 (by decide)) (e [2] (by decide) 2 (by decide)) pe.2.2.2.2⟩
