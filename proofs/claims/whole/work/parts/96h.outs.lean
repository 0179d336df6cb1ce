/-! clock: outs, and keepers of the class -/
theorem and1I (x : Int32) : x &&& 1 = bi (bt x 0) := by
  apply b_ext
  intro i hi
  rw [b_and, bt_1 hi]
  unfold bi
  cases hb : bt x 0 with
  | true =>
    rw [if_pos rfl, bt_1 hi]
    by_cases h : i = 0
    · simp [h, hb]
    · simp [h]
  | false =>
    rw [if_neg (by decide), b_0]
    by_cases h : i = 0
    · simp [h, hb]
    · simp [h]
theorem z_sh : ∀ k, k < 32 → (0 : Int32) <<< (nI k &&& 31) = 0 := by decide +kernel
theorem bi_sh (b : Bool) {k : Nat} (hk : k < 32) : bi b <<< (nI k &&& 31) = nI (if b = true then 2 ^ k else 0) := by
  cases b
  · exact z_sh k hk
  · exact one_sh k hk
theorem vb_step (f : Nat → Bool) (k : Nat) : nI (vb f k) ||| nI (if f k = true then 2 ^ k else 0) = nI (vb f (k + 1)) := by
  rw [nI_or]
  show _ = nI (if f k = true then vb f k ||| 2 ^ k else vb f k)
  by_cases h : f k = true
  · rw [if_pos h, if_pos h]
  · rw [if_neg h, if_neg h, Nat.or_zero]
theorem outsC_ok (n : Nat) (hn : 2400 < n) {no k0 : Nat} (hno : no ≤ 8) (hk : alb 44 k0 = 32) (I : MI) (J : MJ) (h8 : I 1 8 = nI no) {o : Nat → Nat} (ho : ∀ k, k < no → I 6 k = nI (o k) ∧ o k < 32) {f : Nat → Bool} (hf : ∀ k, k < no → bt (I k0 (o k)) 0 = f k) : fX6_outsOf n k0 I J = some (nI (vb f no), I, J) := by
  have l : ∀ q k, k ≤ no → no < q + k → lX6_outsOf_4 n q k0 (nI (vb f k)) (nI k) I J = some (nI (vb f no), I, J) := by
    intro q
    induction q with
    | zero => intro k h1 h2; omega
    | succ q ih =>
      intro k h1 h2
      have e : ∀ a b, lX6_outsOf_4 n (q + 1) k0 a b I J = fX6_outsOf_4 n (lX6_outsOf_4 n q) k0 a b I J := fun _ _ => rfl
      rw [e]
      unfold fX6_outsOf_4
      rw [h8]
      by_cases hkk : k = no
      · subst hkk
        rw [if_pos (Int32.le_refl _)]
      obtain ⟨o1, o2⟩ := ho k (by omega)
      rw [if_neg (nI_ge (by omega) (by omega)), if_pos (inb_nI (by omega) (by decide)), clampI (by omega), o1, hk, if_pos (inb_nI o2 (by decide)), clampI (by omega), and1I, hf k (by omega), bi_sh _ (by omega), vb_step, nI_1]
      exact ih (k + 1) (by omega) (by omega)
  exact l n 0 (Nat.zero_le _) (by omega)
theorem outsR_ok (n : Nat) (hn : 2400 < n) {no : Nat} {z : Int32} (hno : no ≤ 8) (I : MI) (J : MJ) (h9 : I 44 9 = nI no) {o : Nat → Nat} (ho : ∀ k, k < no → I 50 k = nI (o k) ∧ o k < 32) {f : Nat → Bool} (hf : ∀ k, k < no → (if z = 0 then I 71 (o k) else I 72 (o k)) = bi (f k)) : fX10_outsOf n z I J = some (nI (vb f no), I, J) := by
  have l : ∀ q k, k ≤ no → no < q + k → lX10_outsOf_4 n q z (nI (vb f k)) (nI k) I J = some (nI (vb f no), I, J) := by
    intro q
    induction q with
    | zero => intro k h1 h2; omega
    | succ q ih =>
      intro k h1 h2
      have e : ∀ a b, lX10_outsOf_4 n (q + 1) z a b I J = fX10_outsOf_4 n (lX10_outsOf_4 n q) z a b I J := fun _ _ => rfl
      rw [e]
      unfold fX10_outsOf_4 fX10_outsOf_54 fX10_outsOf_48 fX10_outsOf_55
      rw [h9]
      by_cases hkk : k = no
      · subst hkk
        rw [if_pos (Int32.le_refl _)]
      obtain ⟨o1, o2⟩ := ho k (by omega)
      have hfk := hf k (by omega)
      have ih' := ih (k + 1) (by omega) (by omega)
      have st := vb_step f k
      have put : ∀ y : Int32, y = bi (f k) → (if y = 0 then lt (nI (vb f k) ||| 0) fun v56 => lX10_outsOf_4 n q z v56 (nI k + 1) I J else lt (nI (vb f k) ||| 1 <<< (nI k &&& 31)) fun v56 => lX10_outsOf_4 n q z v56 (nI k + 1) I J) = some (nI (vb f no), I, J) := by
        intro y hy
        rw [hy, nI_1]
        cases hb : f k with
        | true =>
          rw [hb, if_pos rfl] at st
          rw [if_neg (by decide), one_sh k (by omega)]
          simp only [lt]
          rw [st]
          exact ih'
        | false =>
          rw [hb, if_neg (by decide)] at st
          rw [if_pos (by decide)]
          simp only [lt]
          rw [show (0 : Int32) = nI 0 from rfl, st]
          exact ih'
      rw [if_neg (nI_ge (by omega) (by omega)), if_pos (inb_nI (by omega) (by decide)), if_pos (inb_nI (by omega) (by decide)), clampI (by omega), o1, if_pos (inb_nI o2 (by decide)), if_pos (inb_nI o2 (by decide)), clampI (by omega)]
      by_cases hz : z = 0
      · rw [if_pos hz]
        rw [if_pos hz] at hfk
        exact put _ hfk
      · rw [if_neg hz]
        rw [if_neg hz] at hfk
        exact put _ hfk
  exact l n 0 (Nat.zero_le _) (by omega)
theorem setK_ok (n : Nat) (hn : 2400 < n) {c k0 : Nat} (hc : c ≤ 32) (hk : alb 44 k0 = 32) (h1 : k0 ≠ 1) (h2 : k0 ≠ 2) (x : Int32) (I : MI) (J : MJ) (h5 : I 1 5 = nI c) : ∃ I', fX6_setKeepers n k0 x I J = some (I', J) ∧ (∀ a, a ≠ k0 → I' a = I a) ∧ ∀ i, I' k0 i = if i < c ∧ I 2 i = 1 then bi (bt x i) else I k0 i := by
  have l : ∀ q k I1, k ≤ c → c < q + k → (∀ a, a ≠ k0 → I1 a = I a) → (∀ i, I1 k0 i = if i < k ∧ I 2 i = 1 then bi (bt x i) else I k0 i) → ∃ I', lX6_setKeepers_2 n q k0 x (nI k) I1 J = some (I', J) ∧ (∀ a, a ≠ k0 → I' a = I a) ∧ ∀ i, I' k0 i = if i < c ∧ I 2 i = 1 then bi (bt x i) else I k0 i := by
    intro q
    induction q with
    | zero => intro k I1 h3 h4; omega
    | succ q ih =>
      intro k I1 h3 h4 f1 f2
      have e : ∀ b, lX6_setKeepers_2 n (q + 1) k0 x b I1 J = fX6_setKeepers_2 n (lX6_setKeepers_2 n q) k0 x b I1 J := fun _ => rfl
      rw [e]
      unfold fX6_setKeepers_2 fX6_setKeepers_28
      rw [f1 1 (Ne.symm h1), h5]
      by_cases hkc : k = c
      · subst hkc
        rw [if_pos (Int32.le_refl _)]
        exact ⟨I1, rfl, f1, f2⟩
      rw [if_neg (nI_ge (by omega) (by omega)), if_pos (inb_nI (by omega) (by decide)), clampI (by omega), f1 2 (Ne.symm h2), nI_1]
      by_cases hs : I 2 k = 1
      · rw [if_pos hs, hk, if_pos (inb_nI (by omega) (by decide)), ushrI_1 x (by omega)]
        simp only [lt]
        refine ih (k + 1) _ (by omega) (by omega) (fun a ha => by rw [upM_ne a ha]; exact f1 a ha) (fun i => ?_)
        rw [upM_get, if_pos rfl]
        by_cases hik : i = k
        · rw [if_pos hik, hik]
          have hcon : k < k + 1 ∧ I 2 k = 1 := ⟨by omega, hs⟩
          exact (if_pos hcon).symm
        · rw [if_neg hik, f2 i]
          have : (i < k + 1) ↔ i < k := by omega
          simp only [this]
      · rw [if_neg hs]
        refine ih (k + 1) I1 (by omega) (by omega) f1 (fun i => ?_)
        rw [f2 i]
        by_cases hik : i = k
        · rw [if_neg (fun z => by omega), if_neg (fun z => hs (by rw [← hik]; exact z.2))]
        · have : (i < k + 1) ↔ i < k := by omega
          simp only [this]
  exact l n 0 I (Nat.zero_le _) (by omega) (fun _ _ => rfl) (fun i => by rw [if_neg (fun z => absurd z.1 (Nat.not_lt_zero _))])
