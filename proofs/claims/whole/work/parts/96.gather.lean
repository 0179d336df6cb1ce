/-! set: the class gathers its things -/
/-- what the class asks of a cell for its feeders -/
def gOk (I : MI) (u : Nat) : Prop := (I 2 u = 0 ∧ I 45 u = 0) ∨ (I 2 u = 1 ∧ I 45 u = 1 ∧ ∃ s, s < 32 ∧ I 3 u = nI s ∧ I 46 u = nI s) ∨ (I 2 u = 2 ∧ I 45 u = 2 ∧ ((bt (I 11 6) u = false ∧ I 55 u = 0) ∨ (bt (I 11 6) u = true ∧ ¬ I 55 u = 0 ∧ ∃ k, k ≤ 4 ∧ I 12 u = nI k ∧ I 57 u = nI k ∧ ∀ j, j < k → ∃ l, l < 32 ∧ I 14 (4 * u + j) = nI l ∧ I 56 (4 * u + j) = nI l)))
theorem gOk_fr {I I' : MI} {u : Nat} (h : ∀ a ∈ [2, 3, 11, 12, 14, 45, 46, 55, 56, 57], I' a = I a) (hp : gOk I u) : gOk I' u := by
  unfold gOk
  rw [h 2 (by decide), h 3 (by decide), h 11 (by decide), h 12 (by decide), h 14 (by decide), h 45 (by decide), h 46 (by decide), h 55 (by decide), h 56 (by decide), h 57 (by decide)]
  exact hp
theorem feedersOf_ok (n : Nat) (hn : 2400 < n) {u : Nat} (hu : u < 32) (I : MI) (J : MJ) (hg : gOk I u) : ∃ x, fX5_feedersOf n (nI u) I J = some (x, I, J) ∧ ∀ f, f < 32 → (bt x f = true ↔ feeds I u f) := by
  unfold fX5_feedersOf
  simp only [inb_nI hu (show (32 : Nat) < 2 ^ 31 by decide), if_true, clampI (show u < 2 ^ 31 by omega)]
  rcases hg with ⟨h2, h45⟩ | ⟨h2, h45, s, hs, h3, h46⟩ | ⟨h2, h45, ⟨hw, h55⟩ | ⟨hw, h55, k, hk, h12, h57, hl⟩⟩
  · rw [if_neg (by rw [h2]; decide), if_neg (by rw [h2]; decide)]
    refine ⟨0, rfl, fun f _ => ?_⟩
    rw [b_0]
    refine ⟨fun q => absurd q (by decide), ?_⟩
    rintro (⟨q, -⟩ | ⟨q, -⟩)
    · exact absurd (h45.symm.trans q) (by decide)
    · exact absurd (h45.symm.trans q) (by decide)
  · rw [if_pos h2, h3]
    refine ⟨_, rfl, fun f hf => ?_⟩
    rw [bt_sh hs hf, decide_eq_true_iff]
    constructor
    · intro q
      exact Or.inl ⟨h45, by rw [h46, q]⟩
    · rintro (⟨-, q⟩ | ⟨q, -⟩)
      · rw [h46] at q
        exact ((nI_eq (by omega) (by omega)).mp q).symm
      · exact absurd (h45.symm.trans q) (by decide)
  · rw [if_neg (by rw [h2]; decide), if_pos h2, isTable_eq n hu, b2_f (by rw [hw]; decide)]
    simp only [Option.bind_some, if_true]
    refine ⟨0, rfl, fun f _ => ?_⟩
    rw [b_0]
    refine ⟨fun q => absurd q (by decide), ?_⟩
    rintro (⟨q, -⟩ | ⟨-, q, -⟩)
    · exact absurd (h45.symm.trans q) (by decide)
    · exact absurd h55 q
  · rw [if_neg (by rw [h2]; decide), if_pos h2, isTable_eq n hu, b2_t hw]
    simp only [Option.bind_some]
    rw [if_neg (by decide)]
    have l : ∀ q j x, j ≤ k → k < q + j → (∀ f, f < 32 → (bt x f = true ↔ ∃ z, z < j ∧ I 14 (4 * u + z) = nI f)) → ∃ x', lX5_feedersOf_42 n q (nI u) x (nI j) I J = some (x', I, J) ∧ ∀ f, f < 32 → (bt x' f = true ↔ ∃ z, z < k ∧ I 14 (4 * u + z) = nI f) := by
      intro q
      induction q with
      | zero => intro j x h1 h2'; omega
      | succ q ih =>
        intro j x h1 h2' hx
        have e : lX5_feedersOf_42 n (q + 1) (nI u) x (nI j) I J = fX5_feedersOf_42 n (lX5_feedersOf_42 n q) (nI u) x (nI j) I J := rfl
        rw [e]
        unfold fX5_feedersOf_42 fX7_letter
        rw [if_pos (inb_nI hu (by decide)), clampI (by omega), h12]
        by_cases hj : j = k
        · subst hj
          rw [if_pos (Int32.le_refl _)]
          exact ⟨x, rfl, hx⟩
        obtain ⟨y, hy, y1, y2⟩ := hl j (by omega)
        have e4 : nI u * 4 + nI j = nI (4 * u + j) := by rw [show (4 : Int32) = nI 4 from rfl, pk_mul, nI_add, Nat.mul_comm]
        rw [if_neg (nI_ge (by omega) (by omega)), if_pos (inb_nI hu (by decide)), if_neg (nI_ge (by omega) (by omega)), e4, if_pos (inb_nI (by omega) (by decide)), clampI (by omega), y1, nI_1]
        simp only [Option.bind_some, lt]
        refine ih (j + 1) _ (by omega) (by omega) (fun f hf => ?_)
        rw [bt_sh' hy hf, hx f hf]
        constructor
        · rintro (⟨z, q1, q2⟩ | q1)
          · exact ⟨z, by omega, q2⟩
          · exact ⟨j, by omega, by rw [y1, q1]⟩
        · rintro ⟨z, q1, q2⟩
          by_cases hz : z = j
          · subst hz
            rw [y1] at q2
            exact Or.inr ((nI_eq (by omega) (by omega)).mp q2).symm
          · exact Or.inl ⟨z, by omega, q2⟩
    obtain ⟨x', j1, j2⟩ := l n 0 0 (Nat.zero_le _) (by omega) (fun f _ => by
      rw [b_0]
      exact ⟨fun q => absurd q (by decide), fun ⟨z, q, _⟩ => absurd q (Nat.not_lt_zero _)⟩)
    refine ⟨x', j1, fun f hf => (j2 f hf).trans ?_⟩
    constructor
    · rintro ⟨z, q1, q2⟩
      obtain ⟨y, hy, y1, y2⟩ := hl z q1
      exact Or.inr ⟨h45, h55, z, by omega, by rw [h57]; exact nI_lt q1 (by omega), by rw [y2, ← y1]; exact q2⟩
    · rintro (⟨q, -⟩ | ⟨-, -, z, q1, q2, q3⟩)
      · exact absurd (h45.symm.trans q) (by decide)
      · rw [h57] at q2
        have hzk := (nI_ltI (by omega) (by omega)).mp q2
        obtain ⟨y, hy, y1, y2⟩ := hl z hzk
        exact ⟨z, hzk, by rw [y1, ← y2]; exact q3⟩
theorem linkUser_ok (n : Nat) (hn : 2400 < n) {u : Nat} (hu : u < 32) (x : Int32) (I : MI) (J : MJ) : ∃ I', fX5_linkUser n (nI u) x I J = some (I', J) ∧ (∀ a, a ≠ 27 → I' a = I a) ∧ ∀ f, f < 32 → I' 27 f = if bt x f = true then I 27 f ||| ((1 : Int32) <<< (nI u &&& 31)) else I 27 f := by
  have l : ∀ N, N = 32 → ∀ q k I1, k ≤ N → N < q + k → (∀ a, a ≠ 27 → I1 a = I a) → (∀ f, f < 32 → I1 27 f = if f < k ∧ bt x f = true then I 27 f ||| ((1 : Int32) <<< (nI u &&& 31)) else I 27 f) → ∃ I', lX5_linkUser_2 n q (nI u) x (nI k) I1 J = some (I', J) ∧ (∀ a, a ≠ 27 → I' a = I a) ∧ ∀ f, f < 32 → I' 27 f = if bt x f = true then I 27 f ||| ((1 : Int32) <<< (nI u &&& 31)) else I 27 f := by
    intro N hN q
    induction q with
    | zero => intro k I1 h1 h2; omega
    | succ q ih =>
      intro k I1 h1 h2 f1 f2
      have e : lX5_linkUser_2 n (q + 1) (nI u) x (nI k) I1 J = fX5_linkUser_2 n (lX5_linkUser_2 n q) (nI u) x (nI k) I1 J := rfl
      rw [e]
      unfold fX5_linkUser_2 fX5_linkUser_29
      by_cases hk : k = N
      · rw [if_pos (show (32 : Int32) ≤ nI k from nI_le (a := 32) (by omega) (by omega))]
        refine ⟨I1, rfl, f1, fun f hf => ?_⟩
        rw [f2 f hf]
        by_cases q1 : bt x f = true
        · rw [if_pos q1, if_pos ⟨by omega, q1⟩]
        · rw [if_neg q1, if_neg (fun z => q1 z.2)]
      rw [if_neg (show ¬ (32 : Int32) ≤ nI k from nI_ge (b := 32) (by omega) (by decide)), hasBit_eq n _ (by omega), bl_wide _ (by omega), nI_1]
      simp only [Option.bind_some]
      by_cases hb : bt x k = true
      · rw [b2_t hb, if_neg (by decide), if_pos (inb_nI (by omega) (by decide)), if_pos (inb_nI (by omega) (by decide)), clampI (by omega)]
        simp only [lt]
        refine ih (k + 1) _ (by omega) (by omega) (fun a ha => by rw [upM_ne a ha]; exact f1 a ha) (fun f hf => ?_)
        rw [upM_get, if_pos rfl]
        by_cases hfk : f = k
        · subst hfk
          rw [if_pos rfl, f2 f hf, if_neg (fun z => absurd z.1 (Nat.lt_irrefl _)), if_pos ⟨by omega, hb⟩]
        · rw [if_neg hfk, f2 f hf]
          have : (f < k + 1) ↔ f < k := by omega
          simp only [this]
      · rw [b2_f hb, if_pos rfl]
        refine ih (k + 1) I1 (by omega) (by omega) f1 (fun f hf => ?_)
        rw [f2 f hf]
        by_cases hfk : f = k
        · subst hfk
          rw [if_neg (fun z => hb z.2), if_neg (fun z => hb z.2)]
        · have : (f < k + 1) ↔ f < k := by omega
          simp only [this]
  exact l 32 rfl n 0 I (Nat.zero_le _) (by omega) (fun _ _ => rfl) (fun f hf => by rw [if_neg (fun z => absurd z.1 (Nat.not_lt_zero _))])
/-- a cell is a thing, as the class asks it -/
theorem gOk_th {I : MI} {u : Nat} (hg : gOk I u) : thg I u ↔ (¬ I 2 u = 2 ∨ bt (I 11 6) u = true) := by
  unfold thg
  rcases hg with ⟨h2, h45⟩ | ⟨h2, h45, -⟩ | ⟨h2, h45, ⟨hw, h55⟩ | ⟨hw, h55, -⟩⟩
  · rw [h2, h45]; exact ⟨fun _ => Or.inl (by decide), fun _ => Or.inl (by decide)⟩
  · rw [h2, h45]; exact ⟨fun _ => Or.inl (by decide), fun _ => Or.inl (by decide)⟩
  · rw [h2, h45, hw]
    exact ⟨fun q => q.elim (fun z => absurd rfl z) (fun z => absurd h55 z), fun q => q.elim (fun z => absurd rfl z) (fun z => absurd z (by decide))⟩
  · exact ⟨fun _ => Or.inr hw, fun _ => Or.inr h55⟩
theorem gather_ok (n : Nat) (hn : 2400 < n) {c : Nat} (hc : c ≤ 32) (I : MI) (J : MJ) (h5 : I 1 5 = nI c) (hg : ∀ u, u < c → gOk I u) : ∃ I', fX5_gather n I J = some (I', J) ∧ (∀ a, a ≠ 22 → a ≠ 23 → a ≠ 26 → a ≠ 27 → I' a = I a) ∧ I' 22 0 = I 22 0 ∧ I' 22 1 = nI (tn I c) ∧ (∀ i, i < c → thg I i → I' 23 (tn I i) = nI i) ∧ (∀ u, u < c → ∀ f, f < 32 → (bt (I' 26 u) f = true ↔ feeds I u f)) ∧ ∀ f, f < 32 → ∀ z, z < 32 → (bt (I' 27 f) z = true ↔ z < c ∧ feeds I z f) := by
  have l : ∀ q k I1, k ≤ c → c < q + k → (∀ a, a ≠ 22 → a ≠ 23 → a ≠ 26 → a ≠ 27 → I1 a = I a) → I1 22 0 = I 22 0 → I1 22 1 = nI (tn I k) → (∀ i, i < k → thg I i → I1 23 (tn I i) = nI i) → (∀ u, u < k → ∀ f, f < 32 → (bt (I1 26 u) f = true ↔ feeds I u f)) → (∀ f, f < 32 → ∀ z, z < 32 → (bt (I1 27 f) z = true ↔ z < k ∧ feeds I z f)) → ∃ I', lX5_gather_15 n q (nI k) I1 J = some (I', J) ∧ (∀ a, a ≠ 22 → a ≠ 23 → a ≠ 26 → a ≠ 27 → I' a = I a) ∧ I' 22 0 = I 22 0 ∧ I' 22 1 = nI (tn I c) ∧ (∀ i, i < c → thg I i → I' 23 (tn I i) = nI i) ∧ (∀ u, u < c → ∀ f, f < 32 → (bt (I' 26 u) f = true ↔ feeds I u f)) ∧ ∀ f, f < 32 → ∀ z, z < 32 → (bt (I' 27 f) z = true ↔ z < c ∧ feeds I z f) := by
    intro q
    induction q with
    | zero => intro k I1 h1 h2; omega
    | succ q ih =>
      intro k I1 h1 h2 f1 f2 f3 f4 f5 f6
      have e : lX5_gather_15 n (q + 1) (nI k) I1 J = fX5_gather_15 n (lX5_gather_15 n q) (nI k) I1 J := rfl
      rw [e]
      by_cases hk : k = c
      · subst hk
        unfold fX5_gather_15
        rw [f1 1 (by decide) (by decide) (by decide) (by decide), h5, if_pos (Int32.le_refl _)]
        exact ⟨I1, rfl, f1, f2, f3, f4, f5, f6⟩
      have hkc : k < c := by omega
      have er : ∀ (y : MI), (∀ a, a ≠ 22 → a ≠ 23 → a ≠ 26 → a ≠ 27 → y a = I a) → ∀ a ∈ [2, 3, 11, 12, 14, 45, 46, 55, 56, 57], y a = I a := fun y hy a ha => by
        simp only [List.mem_cons, List.not_mem_nil, or_false] at ha
        exact hy a (by omega) (by omega) (by omega) (by omega)
      obtain ⟨x, x1, x2⟩ := feedersOf_ok n hn (show k < 32 by omega) I1 J (gOk_fr (er I1 f1) (hg k hkc))
      have hff : ∀ f, feeds I1 k f ↔ feeds I k f := fun f => by
        unfold feeds
        rw [er I1 f1 45 (by decide), er I1 f1 46 (by decide), er I1 f1 55 (by decide), er I1 f1 56 (by decide), er I1 f1 57 (by decide)]
      obtain ⟨I2, y1, y2, y3⟩ := linkUser_ok n hn (show k < 32 by omega) x (upM I1 26 k x) J
      have g1 : ∀ a, a ≠ 22 → a ≠ 23 → a ≠ 26 → a ≠ 27 → I2 a = I a := fun a q1 q2 q3 q4 => by rw [y2 a q4, upM_ne a q3]; exact f1 a q1 q2 q3 q4
      have g22 : ∀ j, I2 22 j = I1 22 j := fun j => by rw [y2 22 (by decide), upM_ne 22 (by decide)]
      have g23 : ∀ j, I2 23 j = I1 23 j := fun j => by rw [y2 23 (by decide), upM_ne 23 (by decide)]
      have g26 : ∀ u, u < k + 1 → ∀ f, f < 32 → (bt (I2 26 u) f = true ↔ feeds I u f) := by
        intro u hu f hf
        rw [y2 26 (by decide), upM_get, if_pos rfl]
        by_cases quk : u = k
        · rw [if_pos quk, quk, x2 f hf, hff f]
        · rw [if_neg quk]; exact f5 u (by omega) f hf
      have g27 : ∀ f, f < 32 → ∀ z, z < 32 → (bt (I2 27 f) z = true ↔ z < k + 1 ∧ feeds I z f) := by
        intro f hf z hz
        rw [y3 f hf, upM_ne 27 (by decide)]
        by_cases hb : bt x f = true
        · rw [if_pos hb, bt_sh' (by omega) hz, f6 f hf z hz]
          have hfk := (hff f).mp ((x2 f hf).mp hb)
          constructor
          · rintro (⟨q1, q2⟩ | q1)
            · exact ⟨by omega, q2⟩
            · rw [q1]; exact ⟨by omega, hfk⟩
          · rintro ⟨q1, q2⟩
            by_cases hzk : z = k
            · exact Or.inr hzk
            · exact Or.inl ⟨by omega, q2⟩
        · rw [if_neg hb, f6 f hf z hz]
          constructor
          · rintro ⟨q1, q2⟩; exact ⟨by omega, q2⟩
          · rintro ⟨q1, q2⟩
            refine ⟨?_, q2⟩
            by_cases hzk : z = k
            · rw [hzk] at q2
              exact absurd ((x2 f hf).mpr ((hff f).mpr q2)) hb
            · omega
      have hth := gOk_th (hg k hkc)
      have hs := tn_s I k
      have hm := tn_le I k
      have skip : ¬ thg I k → ∃ I', lX5_gather_15 n q (nI (k + 1)) I2 J = some (I', J) ∧ (∀ a, a ≠ 22 → a ≠ 23 → a ≠ 26 → a ≠ 27 → I' a = I a) ∧ I' 22 0 = I 22 0 ∧ I' 22 1 = nI (tn I c) ∧ (∀ i, i < c → thg I i → I' 23 (tn I i) = nI i) ∧ (∀ u, u < c → ∀ f, f < 32 → (bt (I' 26 u) f = true ↔ feeds I u f)) ∧ ∀ f, f < 32 → ∀ z, z < 32 → (bt (I' 27 f) z = true ↔ z < c ∧ feeds I z f) := by
        intro hnt
        rw [if_neg (fun q => hnt (of_decide_eq_true q))] at hs
        refine ih (k + 1) I2 (by omega) (by omega) g1 (by rw [g22]; exact f2) (by rw [g22, hs]; exact f3) (fun i hi hti => ?_) g26 g27
        rw [g23]
        by_cases hik : i = k
        · rw [hik] at hti; exact absurd hti hnt
        · exact f4 i (by omega) hti
      have take : thg I k → ∃ I', fX5_gather_64 n (lX5_gather_15 n q) (nI k) I2 J = some (I', J) ∧ (∀ a, a ≠ 22 → a ≠ 23 → a ≠ 26 → a ≠ 27 → I' a = I a) ∧ I' 22 0 = I 22 0 ∧ I' 22 1 = nI (tn I c) ∧ (∀ i, i < c → thg I i → I' 23 (tn I i) = nI i) ∧ (∀ u, u < c → ∀ f, f < 32 → (bt (I' 26 u) f = true ↔ feeds I u f)) ∧ ∀ f, f < 32 → ∀ z, z < 32 → (bt (I' 27 f) z = true ↔ z < c ∧ feeds I z f) := by
        intro hti
        rw [if_pos (decide_eq_true hti)] at hs
        unfold fX5_gather_64 fX5_gather_84
        rw [g22, f3, if_pos (inb_nI (by omega) (by decide)), clampI (by omega)]
        simp only [lt]
        rw [upM_ne 22 (by decide), g22, f3, nI_1, nI_1]
        refine ih (k + 1) _ (by omega) (by omega) (fun a q1 q2 q3 q4 => ?_) ?_ ?_ (fun i hi hti' => ?_) (fun u hu f hf => ?_) (fun f hf z hz => ?_)
        · rw [upM_ne a q1, upM_ne a q2]; exact g1 a q1 q2 q3 q4
        · rw [upM_get, if_pos rfl, if_neg (by decide), upM_ne 22 (by decide), g22]; exact f2
        · rw [upM_get, if_pos rfl, if_pos rfl, hs]
        · rw [upM_ne 23 (by decide), upM_get, if_pos rfl]
          by_cases hik : i = k
          · rw [hik, if_pos rfl]
          · have h1 := tn_mono I (a := i + 1) k (by omega)
            have h2 := tn_s I i
            rw [if_pos (decide_eq_true hti')] at h2
            rw [if_neg (by omega), g23]
            exact f4 i (by omega) hti'
        · rw [upM_ne 26 (by decide), upM_ne 26 (by decide)]; exact g26 u hu f hf
        · rw [upM_ne 27 (by decide), upM_ne 27 (by decide)]; exact g27 f hf z hz
      unfold fX5_gather_15
      rw [f1 1 (by decide) (by decide) (by decide) (by decide), h5, if_neg (nI_ge (by omega) (by omega)), x1]
      simp only [Option.bind_some]
      rw [if_pos (inb_nI (by omega) (by decide)), clampI (by omega)]
      simp only [lt]
      rw [if_pos (inb_nI (by omega) (by decide)), upM_get, if_pos rfl, if_pos rfl, y1]
      simp only [Option.bind_some]
      rw [if_pos (inb_nI (by omega) (by decide)), g1 2 (by decide) (by decide) (by decide) (by decide)]
      by_cases h2 : I 2 k = 2
      · rw [if_pos h2, isTable_eq n (by omega), g1 11 (by decide) (by decide) (by decide) (by decide)]
        simp only [Option.bind_some]
        by_cases hw : bt (I 11 6) k = true
        · rw [b2_t hw, if_neg (by decide)]
          exact take (hth.mpr (Or.inr hw))
        · rw [b2_f hw, if_pos rfl]
          unfold fX5_gather_84
          rw [nI_1]
          exact skip (fun z => (hth.mp z).elim (fun y => y h2) hw)
      · rw [if_neg h2]
        exact take (hth.mpr (Or.inl h2))
  unfold fX5_gather
  simp only [lt]
  rw [fill_eq n 27 32 0 _ J (by decide) (by decide) aln_27 (by omega)]
  simp only [Option.bind_some]
  refine l n 0 _ (Nat.zero_le _) (by omega) (fun a q1 q2 q3 q4 => ?_) ?_ ?_ (fun i hi => absurd hi (Nat.not_lt_zero _)) (fun u hu => absurd hu (Nat.not_lt_zero _)) (fun f hf z hz => ?_)
  · funext b
    unfold fillc
    rw [if_neg (fun z => q4 z.1), upM_ne a q1]
  · unfold fillc
    rw [if_neg (fun z => absurd z.1 (by decide)), upM_get, if_pos rfl, if_neg (by decide)]
  · unfold fillc
    rw [if_neg (fun z => absurd z.1 (by decide)), upM_get, if_pos rfl, if_pos rfl]
    rfl
  · unfold fillc
    rw [if_pos ⟨rfl, hf⟩, b_0]
    exact ⟨fun q => absurd q (by decide), fun q => absurd q.1 (Nat.not_lt_zero _)⟩
