/-! cost: the reference, and sums -/
theorem co_106 (n : Nat) {k32 : Int64 → Int32 → Int32 → Int32 → Int32 → Int32 → MI → MJ → Option (Int32 × M2)} {x2 : Int64} {x4 x5 x6 x8 : Int32} {B r : Nat} {I : MI} {J : MJ} (hB : B < 2 ^ 31) (hr : r < 2 ^ 31) : fX10_costOf_106 n k32 x2 x4 x5 x6 (nI B) x8 (nI r) I J = k32 x2 x4 x5 x6 (nI (max B r)) (x8 + 1) I J := by
  unfold fX10_costOf_106 fX10_costOf_117
  by_cases h : r ≤ B
  · rw [if_pos ((nI_leI hr hB).mpr h), Nat.max_eq_left h]
  · rw [if_neg (fun q => h ((nI_leI hr hB).mp q)), Nat.max_eq_right (by omega)]
theorem co_95 (n : Nat) {k32 : Int64 → Int32 → Int32 → Int32 → Int32 → Int32 → MI → MJ → Option (Int32 × M2)} {x2 : Int64} {x4 x5 x8 : Int32} {T B r : Nat} {I : MI} {J : MJ} (hT : T < 2 ^ 31) (hB : B < 2 ^ 31) (hr : r < 2 ^ 31) : fX10_costOf_95 n k32 x2 x4 x5 (nI T) (nI B) x8 (nI r) I J = k32 x2 x4 x5 (nI (min r T)) (nI (max B r)) (x8 + 1) I J := by
  unfold fX10_costOf_95
  by_cases h : T ≤ r
  · rw [if_pos ((nI_leI hT hr).mpr h), Nat.min_eq_right h, co_106 n hB hr]
  · rw [if_neg (fun q => h ((nI_leI hT hr).mp q)), Nat.min_eq_left (by omega), co_106 n hB hr]
theorem co_84 (n : Nat) {k32 : Int64 → Int32 → Int32 → Int32 → Int32 → Int32 → MI → MJ → Option (Int32 × M2)} {x2 : Int64} {x4 x8 : Int32} {R T B q r : Nat} {I : MI} {J : MJ} (hR : R < 2 ^ 31) (hT : T < 2 ^ 31) (hB : B < 2 ^ 31) (hq : q < 2 ^ 31) (hr : r < 2 ^ 31) : fX10_costOf_84 n k32 x2 x4 (nI R) (nI T) (nI B) x8 (nI q) (nI r) I J = k32 x2 x4 (nI (max R q)) (nI (min r T)) (nI (max B r)) (x8 + 1) I J := by
  unfold fX10_costOf_84
  by_cases h : q ≤ R
  · rw [if_pos ((nI_leI hq hR).mpr h), Nat.max_eq_left h, co_95 n hT hB hr]
  · rw [if_neg (fun z => h ((nI_leI hq hR).mp z)), Nat.max_eq_right (by omega), co_95 n hT hB hr]
theorem co_step (n : Nat) {k32 : Int64 → Int32 → Int32 → Int32 → Int32 → Int32 → MI → MJ → Option (Int32 × M2)} {x2 : Int64} {w t N L R T B : Nat} {I : MI} {J : MJ} (hw : 1 ≤ w) (hw6 : w ≤ 6) (hN : N ≤ 36) (hL : L < 2 ^ 31) (hR : R < 2 ^ 31) (hT : T < 2 ^ 31) (hB : B < 2 ^ 31) (h24 : I 44 24 = nI w) (hNN : I 44 24 * I 44 25 = nI N) (ht : t < N) (hb : bl x2 t = true) : fX10_costOf_32 n k32 x2 (nI L) (nI R) (nI T) (nI B) (nI t) I J = k32 x2 (nI (min (t % w) L)) (nI (max R (t % w))) (nI (min (t / w) T)) (nI (max B (t / w))) (nI (t + 1)) I J := by
  have hz : nz (nI w) = true := decide_eq_true (nI_ne0 (by omega) (by omega))
  have hm := Nat.mod_le t w
  have hd := Nat.div_le_self t w
  have ed : nI t / nI w = nI (t / w) := pk_div (by omega) (by omega) (by omega)
  have em : nI t - nI (t / w) * nI w = nI (t % w) := by
    rw [pk_mul, pk_sub (Nat.div_mul_le_self t w)]
    congr 1
    have := Nat.div_add_mod t w
    rw [Nat.mul_comm] at this
    omega
  unfold fX10_costOf_32
  rw [tiles_eq]
  simp only [Option.bind_some, hNN]
  rw [if_neg (nI_ge ht (by omega)), if_neg (fun q => (shr_z x2 (by omega)).mp q hb)]
  simp only [h24]
  rw [if_pos hz]
  simp only [lt]
  rw [if_pos hz, ed, em]
  by_cases h : L ≤ t % w
  · rw [if_pos ((nI_leI hL (by omega)).mpr h), Nat.min_eq_right h, co_84 n hR hT hB (by omega) (by omega), nI_1]
  · rw [if_neg (fun z => h ((nI_leI hL (by omega)).mp z)), Nat.min_eq_left (by omega), co_84 n hR hT hB (by omega) (by omega), nI_1]
def loM (S : Nat → Prop) (f : Nat → Nat) (t L : Nat) : Prop := L ≤ 6 ∧ (∀ s, s < t → S s → L ≤ f s) ∧ (L = 6 ∨ ∃ s, s < t ∧ S s ∧ f s = L)
def hiM (S : Nat → Prop) (f : Nat → Nat) (t R : Nat) : Prop := R ≤ 36 ∧ (∀ s, s < t → S s → f s ≤ R) ∧ (R = 0 ∨ ∃ s, s < t ∧ S s ∧ f s = R)
theorem loM_add {S : Nat → Prop} {f : Nat → Nat} {t L : Nat} (h : loM S f t L) (ht : S t) : loM S f (t + 1) (min (f t) L) := by
  obtain ⟨h1, h2, h3⟩ := h
  refine ⟨by omega, fun s hs hS => ?_, ?_⟩
  · by_cases e : s = t
    · rw [e]; omega
    · have := h2 s (by omega) hS; omega
  · by_cases e : f t ≤ L
    · right; exact ⟨t, by omega, ht, by omega⟩
    · rcases h3 with h3 | ⟨s, q1, q2, q3⟩
      · left; omega
      · right; exact ⟨s, by omega, q2, by omega⟩
theorem loM_skip {S : Nat → Prop} {f : Nat → Nat} {t L : Nat} (h : loM S f t L) (ht : ¬ S t) : loM S f (t + 1) L := by
  obtain ⟨h1, h2, h3⟩ := h
  refine ⟨h1, fun s hs hS => ?_, ?_⟩
  · by_cases e : s = t
    · rw [e] at hS; exact absurd hS ht
    · exact h2 s (by omega) hS
  · rcases h3 with h3 | ⟨s, q1, q2⟩
    · exact Or.inl h3
    · exact Or.inr ⟨s, by omega, q2⟩
theorem hiM_add {S : Nat → Prop} {f : Nat → Nat} {t R : Nat} (hf : f t ≤ 36) (h : hiM S f t R) (ht : S t) : hiM S f (t + 1) (max R (f t)) := by
  obtain ⟨h1, h2, h3⟩ := h
  refine ⟨by omega, fun s hs hS => ?_, ?_⟩
  · by_cases e : s = t
    · rw [e]; omega
    · have := h2 s (by omega) hS; omega
  · by_cases e : R ≤ f t
    · right; exact ⟨t, by omega, ht, by omega⟩
    · rcases h3 with h3 | ⟨s, q1, q2, q3⟩
      · omega
      · right; exact ⟨s, by omega, q2, by omega⟩
theorem hiM_skip {S : Nat → Prop} {f : Nat → Nat} {t R : Nat} (h : hiM S f t R) (ht : ¬ S t) : hiM S f (t + 1) R := by
  obtain ⟨h1, h2, h3⟩ := h
  refine ⟨h1, fun s hs hS => ?_, ?_⟩
  · by_cases e : s = t
    · rw [e] at hS; exact absurd hS ht
    · exact h2 s (by omega) hS
  · rcases h3 with h3 | ⟨s, q1, q2⟩
    · exact Or.inl h3
    · exact Or.inr ⟨s, by omega, q2⟩
theorem co_loop (n : Nat) {w N : Nat} {S : Nat → Prop} {x2 : Int64} {I : MI} {J : MJ} (hw : 1 ≤ w) (hw6 : w ≤ 6) (hN : N ≤ 36) (h24 : I 44 24 = nI w) (hNN : I 44 24 * I 44 25 = nI N) (hx : ∀ t, t < 64 → (bl x2 t = true ↔ S t)) (hne : ∃ t, t < N ∧ S t ∧ t / w < 6) (hSN : ∀ t, S t → t < N) : ∀ q t L R T B, t ≤ N → N < q + t → loM S (fun t => t % w) t L → hiM S (fun t => t % w) t R → loM S (fun t => t / w) t T → hiM S (fun t => t / w) t B → ∃ v, lX10_costOf_32 n q x2 (nI L) (nI R) (nI T) (nI B) (nI t) I J = some (nI v, I, J) ∧ isCo S w v := by
  intro q
  induction q with
  | zero => intro t L R T B h1 h2; omega
  | succ q ih =>
    intro t L R T B h1 h2 a1 a2 a3 a4
    have b1 := a1.1
    have b2' := a2.1
    have b3 := a3.1
    have b4 := a4.1
    have e : lX10_costOf_32 n (q + 1) x2 (nI L) (nI R) (nI T) (nI B) (nI t) I J = fX10_costOf_32 n (lX10_costOf_32 n q) x2 (nI L) (nI R) (nI T) (nI B) (nI t) I J := rfl
    rw [e]
    by_cases ht : t = N
    · obtain ⟨s, s1, s2, s3⟩ := hne
      have lo : ∀ (f : Nat → Nat) v, f s < 6 → loM S f t v → isMn S f v := by
        intro f v hf ⟨h1, h2, h3⟩
        have := h2 s (by omega) s2
        refine ⟨?_, fun z hz => h2 z (by have := hSN z hz; omega) hz⟩
        rcases h3 with h3 | ⟨z, q1, q2, q3⟩
        · omega
        · exact ⟨z, q2, q3⟩
      have hi : ∀ (f : Nat → Nat) v, hiM S f t v → isMx S f v := by
        intro f v ⟨h1, h2, h3⟩
        have := h2 s (by omega) s2
        refine ⟨?_, fun z hz => h2 z (by have := hSN z hz; omega) hz⟩
        rcases h3 with h3 | ⟨z, q1, q2, q3⟩
        · exact ⟨s, s2, by omega⟩
        · exact ⟨z, q2, q3⟩
      have c1 := lo (fun t => t % w) L (show s % w < 6 by have := Nat.mod_lt s (show 0 < w by omega); omega) a1
      have c2 := hi _ _ a2
      have c3 := lo _ _ s3 a3
      have c4 := hi _ _ a4
      have hLR : L ≤ R := by
        obtain ⟨z, z1, z2⟩ := c1.1
        have := c2.2 z z1
        dsimp only at z2 this
        omega
      have hTB : T ≤ B := by
        obtain ⟨z, z1, z2⟩ := c3.1
        have := c4.2 z z1
        dsimp only at z2 this
        omega
      unfold fX10_costOf_32
      rw [tiles_eq]
      simp only [Option.bind_some, hNN]
      rw [if_pos (nI_le (by omega) (by omega)), nI_span hLR hTB]
      exact ⟨_, rfl, L, R, T, B, c1, c2, c3, c4, rfl⟩
    have hm := Nat.mod_le t w
    have hd := Nat.div_le_self t w
    by_cases hb : bl x2 t = true
    · have hS := (hx t (by omega)).mp hb
      rw [co_step n hw hw6 hN (by omega) (by omega) (by omega) (by omega) h24 hNN (by omega) hb]
      exact ih (t + 1) _ _ _ _ (by omega) (by omega) (loM_add a1 hS) (hiM_add (f := fun t => t % w) (show t % w ≤ 36 by omega) a2 hS) (loM_add a3 hS) (hiM_add (f := fun t => t / w) (show t / w ≤ 36 by omega) a4 hS)
    · have hS : ¬ S t := fun q => hb ((hx t (by omega)).mpr q)
      unfold fX10_costOf_32 fX10_costOf_117
      rw [tiles_eq]
      simp only [Option.bind_some, hNN]
      rw [if_neg (nI_ge (by omega) (by omega)), if_pos ((shr_z x2 (by omega)).mpr hb), nI_1]
      exact ih (t + 1) _ _ _ _ (by omega) (by omega) (loM_skip a1 hS) (hiM_skip a2 hS) (loM_skip a3 hS) (hiM_skip a4 hS)
theorem costR_ok (n : Nat) (hn : 2400 < n) {c i w h : Nat} (hc : c ≤ 32) (hi : i < 32) (hw : 1 ≤ w) (hw6 : w ≤ 6) (hh : 1 ≤ h) (hh6 : h ≤ 6) {τ : Nat → Nat} {I : MI} {J : MJ} (h6 : I 44 6 = nI c) (h24 : I 44 24 = nI w) (h25 : I 44 25 = nI h) (ho : ∀ u, u < c → uOk I u) (hf : ∀ u, u < c → feeds I u i → thg I u) (ht : ∀ u, u < c → thg I u → I 61 u = nI (τ u) ∧ τ u < w * h) (hti : I 61 i = nI (τ i) ∧ τ i < w * h) : ∃ v, fX10_costOf n (nI i) I J = some (nI v, I, J) ∧ isCo (wt c (feeds I) τ i) w v := by
  have hwh := wh_le hw6 hh6
  obtain ⟨v, v1, v2⟩ := endsR_ok n hn hc hi (τ := τ) (J := J) h6 ho (fun u hu hth => ⟨(ht u hu hth).1, by have := (ht u hu hth).2; omega⟩) ⟨hti.1, by omega⟩
  unfold fX10_costOf
  rw [v1]
  simp only [Option.bind_some]
  rw [if_pos (inb_nI (by omega) (by decide)), clampI (by omega), hti.1]
  simp only [lt]
  have hS : ∀ t, wt c (feeds I) τ i t → t < w * h := by
    rintro t (p | ⟨u, q1, q2, q3⟩)
    · rw [p]; exact hti.2
    · rw [← q3]; exact (ht u q1 (hf u q1 q2)).2
  refine co_loop n hw hw6 hwh h24 (by rw [h24, h25, pk_mul]) (fun t h => ?_) ⟨τ i, hti.2, Or.inl rfl, ?_⟩ hS n 0 6 0 6 0 (Nat.zero_le _) (by omega) ?_ ?_ ?_ ?_
  · rw [bl_put (by omega) h, v2 t h]
    constructor
    · rintro (⟨q1, -⟩ | q)
      · exact Or.inr q1
      · exact Or.inl q
    · rintro (q | q)
      · exact Or.inr q
      · by_cases e : t = τ i
        · exact Or.inr e
        · exact Or.inl ⟨q, e⟩
  · have := (Nat.div_lt_iff_lt_mul (show 0 < w by omega)).mpr (show τ i < h * w by rw [Nat.mul_comm]; exact hti.2)
    omega
  · exact ⟨by decide, fun s hs => absurd hs (Nat.not_lt_zero _), Or.inl rfl⟩
  · exact ⟨by decide, fun s hs => absurd hs (Nat.not_lt_zero _), Or.inl rfl⟩
  · exact ⟨by decide, fun s hs => absurd hs (Nat.not_lt_zero _), Or.inl rfl⟩
  · exact ⟨by decide, fun s hs => absurd hs (Nat.not_lt_zero _), Or.inl rfl⟩
def ct_sum (P : Nat → Bool) (v : Nat → Nat) : Nat → Nat
  | 0 => 0
  | k + 1 => if P k = true then ct_sum P v k + v k else ct_sum P v k
abbrev thB (I : MI) (i : Nat) : Bool := decide (thg I i)
theorem tn_s (I : MI) (k : Nat) : tn I (k + 1) = if thB I k = true then tn I k + 1 else tn I k := rfl
theorem tn_le (I : MI) (k : Nat) : tn I k ≤ k := by
  unfold tn
  induction k with
  | zero => exact Nat.le_refl _
  | succ k ih =>
    show (if decide (thg I k) = true then _ + 1 else _) ≤ k + 1
    split <;> omega
theorem tn_mono (I : MI) {a : Nat} : ∀ k, a ≤ k → tn I a ≤ tn I k := by
  intro k
  induction k with
  | zero => intro h; rw [show a = 0 by omega]; exact Nat.le_refl _
  | succ k ih =>
    intro h
    by_cases e : a = k + 1
    · rw [e]; exact Nat.le_refl _
    · have := ih (by omega)
      rw [tn_s]
      split <;> omega
/-- sums over all things: the class goes by its order -/
theorem sumC (n : Nat) {c : Nat} {I : MI} {J : MJ} {P : Nat → Bool} {v : Nat → Nat} {T : Nat → Nat} (hc : c ≤ 32) (hT0 : T 0 = 0) (hTs : ∀ k, T (k + 1) = if P k = true then T k + 1 else T k) (hTm : ∀ k, k ≤ c → T k ≤ T c) (hTl : ∀ k, T k ≤ k) (h22 : I 22 1 = nI (T c)) (h23 : ∀ i, i < c → P i = true → I 23 (T i) = nI i) (hv : ∀ i, i < c → P i = true → fX5_spanOf n (nI i) I J = some (nI (v i), I, J)) : ∀ d k q, k + d = c → d < q → lX5_spanOfAll_4 n q (nI (ct_sum P v k)) (nI (T k)) I J = some (nI (ct_sum P v c), I, J) := by
  have hTc := hTl c
  intro d
  induction d with
  | zero =>
    intro k q hk hq
    obtain ⟨q, rfl⟩ : ∃ z, q = z + 1 := ⟨q - 1, by omega⟩
    have e : ∀ a b, lX5_spanOfAll_4 n (q + 1) a b I J = fX5_spanOfAll_4 n (lX5_spanOfAll_4 n q) a b I J := fun _ _ => rfl
    obtain rfl : k = c := by omega
    rw [e]
    unfold fX5_spanOfAll_4
    rw [h22, if_pos (Int32.le_refl _)]
  | succ d ih =>
    intro k q hk hq
    have hs := hTs k
    have e2 : ct_sum P v (k + 1) = if P k = true then ct_sum P v k + v k else ct_sum P v k := rfl
    by_cases hP : P k = true
    · obtain ⟨q, rfl⟩ : ∃ z, q = z + 1 := ⟨q - 1, by omega⟩
      have e : ∀ a b, lX5_spanOfAll_4 n (q + 1) a b I J = fX5_spanOfAll_4 n (lX5_spanOfAll_4 n q) a b I J := fun _ _ => rfl
      rw [if_pos hP] at hs e2
      have hm := hTm (k + 1) (by omega)
      rw [e]
      unfold fX5_spanOfAll_4
      rw [h22, if_neg (nI_ge (by omega) (by omega)), if_pos (inb_nI (by omega) (by decide)), clampI (by omega), h23 k (by omega) hP, hv k (by omega) hP]
      simp only [Option.bind_some, lt]
      rw [nI_add, nI_1, ← e2, ← hs]
      exact ih (k + 1) q (by omega) (by omega)
    · rw [if_neg hP] at hs e2
      rw [← hs, ← e2]
      exact ih (k + 1) q (by omega) (by omega)
theorem sumR (n : Nat) {c : Nat} {I : MI} {J : MJ} {v : Nat → Nat} (hc : c ≤ 32) (h6 : I 44 6 = nI c) (hv : ∀ i, i < c → thB I i = true → fX10_costOf n (nI i) I J = some (nI (v i), I, J)) : ∀ q k, k ≤ c → c < q + k → lX10_costs_4 n q (nI (ct_sum (thB I) v k)) (nI k) I J = some (nI (ct_sum (thB I) v c), I, J) := by
  intro q
  induction q with
  | zero => intro k h1 h2; omega
  | succ q ih =>
    intro k h1 h2
    have e : ∀ a b, lX10_costs_4 n (q + 1) a b I J = fX10_costs_4 n (lX10_costs_4 n q) a b I J := fun _ _ => rfl
    rw [e]
    unfold fX10_costs_4 fX10_costs_30
    rw [h6]
    by_cases hk : k = c
    · subst hk
      rw [if_pos (Int32.le_refl _)]
    rw [if_neg (nI_ge (by omega) (by omega)), isThing_eq n (by omega), nI_1]
    simp only [Option.bind_some]
    have e2 : ct_sum (thB I) v (k + 1) = if thB I k = true then ct_sum (thB I) v k + v k else ct_sum (thB I) v k := rfl
    by_cases hP : thg I k
    · rw [b2_t hP, if_neg (by decide), hv k (by omega) (decide_eq_true hP)]
      rw [if_pos (decide_eq_true hP)] at e2
      simp only [Option.bind_some, lt]
      rw [nI_add, ← e2]
      exact ih (k + 1) (by omega) (by omega)
    · rw [b2_f hP, if_pos rfl]
      rw [if_neg (fun q => hP (of_decide_eq_true q))] at e2
      simp only [lt]
      rw [show (0 : Int32) = nI 0 from rfl, nI_add, Nat.add_zero, ← e2]
      exact ih (k + 1) (by omega) (by omega)
