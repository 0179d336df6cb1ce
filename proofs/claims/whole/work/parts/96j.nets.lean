/-! clock: values by recursion, the class's keepers, the reference's net -/
def cv (T : (Nat → Bool) → Nat → Bool) (B G : Nat → Bool) : Nat → Nat → Bool
  | 0, i => B i
  | k + 1, i => if G i = true then T (cv T B G k) i else B i
theorem cv_B {T : (Nat → Bool) → Nat → Bool} {B G : Nat → Bool} {i : Nat} (h : ¬ G i = true) : ∀ k, cv T B G k i = B i := by
  intro k
  cases k with
  | zero => rfl
  | succ k => exact if_neg h
theorem cv_st {T : (Nat → Bool) → Nat → Bool} {B G : Nat → Bool} (hT : ∀ i W W', (∀ j, (j < i ∨ ¬ G j = true) → W j = W' j) → T W i = T W' i) : ∀ k i, i < k → cv T B G k i = cv T B G (k + 1) i := by
  intro k
  induction k with
  | zero => intro i hi; omega
  | succ k ih =>
    intro i hi
    by_cases hG : G i = true
    · have e1 : cv T B G (k + 1) i = T (cv T B G k) i := if_pos hG
      have e2 : cv T B G (k + 1 + 1) i = T (cv T B G (k + 1)) i := if_pos hG
      rw [e1, e2]
      refine hT i _ _ (fun j hj => ?_)
      rcases hj with hj | hj
      · exact ih j (by omega)
      · rw [cv_B hj k, cv_B hj (k + 1)]
    · rw [cv_B hG (k + 1), cv_B hG (k + 1 + 1)]
theorem cv_fix {T : (Nat → Bool) → Nat → Bool} {B G : Nat → Bool} (hT : ∀ i W W', (∀ j, (j < i ∨ ¬ G j = true) → W j = W' j) → T W i = T W' i) {k i : Nat} (hi : i < k) (hG : G i = true) : cv T B G k i = T (cv T B G k) i := by
  rw [cv_st hT k i hi]
  exact if_pos hG
theorem bi_bt (x : Int32) (b : Bool) (h : bt x 0 = b) : x &&& 1 = bi b := by rw [and1I, h]
theorem bt_bi (b : Bool) : bt (bi b) 0 = b := by cases b <;> decide
theorem bi_and (b : Bool) : bi b &&& 1 = bi b := by cases b <;> decide
/-- the class: what its keepers take next -/
theorem sn67_ok (n : Nat) (hn : 2400 < n) {c : Nat} (hc : c ≤ 32) (I : MI) (J : MJ) (h5 : I 1 5 = nI c) {V : Nat → Bool} (hV : ∀ i, i < c → bt (I 39 i) 0 = V i) {s : Nat → Nat} (hs : ∀ i, i < c → I 2 i = 1 → I 3 i = nI (s i) ∧ s i < c) : ∃ I', lX6_stepNet_67 n n 0 0 I J = some (I', J) ∧ (∀ a, a ≠ 38 → a ≠ 39 → I' a = I a) ∧ (∀ j, I' 38 j = if j = 0 then I 38 0 + 1 else I 38 j) ∧ ∀ i, I' 39 i = if i < c ∧ I 2 i = 1 then bi (V (s i)) else I 39 i := by
  have l : ∀ q k x, k ≤ c → c < q + k → (∀ i, i < 32 → (bt x i = true ↔ i < k ∧ I 2 i = 1 ∧ V (s i) = true)) → ∃ I', lX6_stepNet_67 n q x (nI k) I J = some (I', J) ∧ (∀ a, a ≠ 38 → a ≠ 39 → I' a = I a) ∧ (∀ j, I' 38 j = if j = 0 then I 38 0 + 1 else I 38 j) ∧ ∀ i, I' 39 i = if i < c ∧ I 2 i = 1 then bi (V (s i)) else I 39 i := by
    intro q
    induction q with
    | zero => intro k x h1 h2; omega
    | succ q ih =>
      intro k x h1 h2 hx
      have e : lX6_stepNet_67 n (q + 1) x (nI k) I J = fX6_stepNet_67 n (lX6_stepNet_67 n q) x (nI k) I J := rfl
      rw [e]
      unfold fX6_stepNet_67 fX6_stepNet_114
      rw [h5]
      by_cases hk : k = c
      · subst hk
        obtain ⟨I', g1, g2, g3⟩ := setK_ok n hn hc aln_39 (by decide) (by decide) x I J h5
        rw [if_pos (Int32.le_refl _), g1]
        simp only [Option.bind_some, lt]
        refine ⟨_, rfl, fun a q1 q2 => by rw [upM_ne a q1]; exact g2 a q2, fun j => ?_, fun i => ?_⟩
        · rw [upM_get, if_pos rfl, g2 38 (by decide)]
        · rw [upM_ne 39 (by decide), g3 i]
          by_cases hcon : i < k ∧ I 2 i = 1
          · rw [if_pos hcon, if_pos hcon]
            have hxi := hx i (by omega)
            have : bt x i = V (s i) := by
              cases q1 : bt x i <;> cases q2 : V (s i) <;> simp_all
            rw [this]
          · rw [if_neg hcon, if_neg hcon]
      have ik : inb (nI k) 32 = true := inb_nI (by omega) (by decide)
      rw [if_neg (nI_ge (by omega) (by omega)), clampI (by omega), nI_1]
      simp only [ik, if_true]
      by_cases hs1 : I 2 k = 1
      · obtain ⟨e3, hsc⟩ := hs k (by omega) hs1
        have hb : fX9_hasBit n (I 39 (s k)).toInt64 0 I J = some (b2 (V (s k) = true), I, J) := by
          have := hasBit_eq n (I 39 (s k)).toInt64 (i := 0) (by decide) I J
          rw [bl_wide _ (by decide), hV _ hsc] at this
          exact this
        rw [if_pos hs1, e3, if_pos (inb_nI (by omega) (by decide)), clampI (by omega), hb]
        simp only [Option.bind_some, lt]
        by_cases hv : V (s k) = true
        · rw [b2_t hv, if_neg (by decide)]
          refine ih (k + 1) _ (by omega) (by omega) (fun i hi => ?_)
          rw [bt_sh' (by omega) hi, hx i hi]
          constructor
          · rintro (⟨q1, q2⟩ | q1)
            · exact ⟨by omega, q2⟩
            · rw [q1]; exact ⟨by omega, hs1, hv⟩
          · rintro ⟨q1, q2⟩
            by_cases hik : i = k
            · exact Or.inr hik
            · exact Or.inl ⟨by omega, q2⟩
        · rw [b2_f hv, if_pos rfl]
          refine ih (k + 1) _ (by omega) (by omega) (fun i hi => ?_)
          rw [hx i hi]
          constructor
          · rintro ⟨q1, q2⟩; exact ⟨by omega, q2⟩
          · rintro ⟨q1, q2, q3⟩
            by_cases hik : i = k
            · rw [hik] at q3; exact absurd q3 hv
            · exact ⟨by omega, q2, q3⟩
      · rw [if_neg hs1]
        refine ih (k + 1) _ (by omega) (by omega) (fun i hi => ?_)
        rw [hx i hi]
        constructor
        · rintro ⟨q1, q2⟩; exact ⟨by omega, q2⟩
        · rintro ⟨q1, q2, q3⟩
          by_cases hik : i = k
          · rw [hik] at q2; exact absurd q2 hs1
          · exact ⟨by omega, q2, q3⟩
  exact l n 0 0 (Nat.zero_le _) (by omega) (fun i hi => by
    rw [b_0]
    exact ⟨fun q => absurd q (by decide), fun q => absurd q.1 (Nat.not_lt_zero _)⟩)
/-- the reference: signs of its net -/
theorem netIs_eq (n : Nat) {x : Nat} (hx : x < 64) {v : Bool} (I : MI) (J : MJ) (h : I 71 (x / 2) = bi v) : fX10_netIs n (nI x) I J = some (bi (v ^^ x.testBit 0), I, J) := by
  have e2 : nI x / 2 = nI (x / 2) := pk_div (d := 2) (by omega) (by decide) (by decide)
  have e3 : nI x - nI (x / 2) * 2 = nI (x % 2) := by
    rw [show (2 : Int32) = nI 2 from rfl, pk_mul, pk_sub (by omega)]
    congr 1
    omega
  unfold fX10_netIs fX10_netIs_20
  rw [e2, e3, if_pos (inb_nI (by omega) (by decide)), clampI (by omega), h, Nat.testBit_zero]
  rcases Nat.mod_two_eq_zero_or_one x with q | q
  · rw [q, if_neg (by decide)]
    cases v <;> rfl
  · rw [q, if_pos (by decide)]
    cases v <;> rfl
theorem cn2_ok (n : Nat) (hn : 2400 < n) {c : Nat} (hc : c ≤ 32) (I : MI) (J : MJ) (h6 : I 44 6 = nI c) {V : Nat → Bool} (hV : ∀ i, i < c → I 45 i = 2 → ∃ x y o, x < 2 * i ∧ y < 2 * i ∧ o < 3 ∧ I 46 i = nI x ∧ I 47 i = nI y ∧ I 48 i = nI o ∧ V i = opB o (V (x / 2) ^^ x.testBit 0) (V (y / 2) ^^ y.testBit 0)) (h0 : ∀ i, i < c → ¬ I 45 i = 2 → I 71 i = bi (V i)) : ∃ I', lX10_clockNet_2 n n 0 I J = Option.bind (fX10_outsOf n 0 I' J) (fun r64 => lt (upM r64.2.1 44 43 r64.1) (fun I67 => lX10_clockNet_72 n n 0 I67 r64.2.2)) ∧ (∀ a, a ≠ 71 → I' a = I a) ∧ ∀ i, i < c → I' 71 i = bi (V i) := by
  have l : ∀ q k I1, k ≤ c → c < q + k → (∀ a, a ≠ 71 → I1 a = I a) → (∀ i, i < c → (i < k ∨ ¬ I 45 i = 2) → I1 71 i = bi (V i)) → ∃ I', lX10_clockNet_2 n q (nI k) I1 J = Option.bind (fX10_outsOf n 0 I' J) (fun r64 => lt (upM r64.2.1 44 43 r64.1) (fun I67 => lX10_clockNet_72 n n 0 I67 r64.2.2)) ∧ (∀ a, a ≠ 71 → I' a = I a) ∧ ∀ i, i < c → I' 71 i = bi (V i) := by
    intro q
    induction q with
    | zero => intro k I1 h1 h2; omega
    | succ q ih =>
      intro k I1 h1 h2 f1 f2
      have e : lX10_clockNet_2 n (q + 1) (nI k) I1 J = fX10_clockNet_2 n (lX10_clockNet_2 n q) (nI k) I1 J := rfl
      rw [e]
      unfold fX10_clockNet_2 fX10_clockNet_55
      rw [f1 44 (by decide), h6]
      by_cases hk : k = c
      · subst hk
        rw [if_pos (Int32.le_refl _)]
        exact ⟨I1, rfl, f1, fun i hi => f2 i hi (Or.inl hi)⟩
      have hkc : k < c := by omega
      have ik : inb (nI k) 32 = true := inb_nI (by omega) (by decide)
      rw [if_neg (nI_ge (by omega) (by omega)), clampI (by omega), f1 45 (by decide), nI_1]
      simp only [ik, if_true]
      by_cases hs : I 45 k = 2
      · obtain ⟨x, y, o, hx, hy, ho, e46, e47, e48, ev⟩ := hV k hkc hs
        rw [if_pos hs, f1 46 (by decide), e46, netIs_eq n (by omega) I1 J (f2 (x / 2) (by omega) (Or.inl (by omega)))]
        simp only [Option.bind_some]
        rw [f1 47 (by decide), e47, netIs_eq n (by omega) I1 J (f2 (y / 2) (by omega) (Or.inl (by omega)))]
        simp only [Option.bind_some]
        rw [f1 48 (by decide), e48, gateOf_eq n ho]
        simp only [Option.bind_some, lt]
        rw [← ev, bi_z]
        refine ih (k + 1) _ (by omega) (by omega) (fun a ha => by rw [upM_ne a ha]; exact f1 a ha) (fun i hi hik => ?_)
        rw [upM_get, if_pos rfl]
        by_cases hq : i = k
        · rw [if_pos hq, hq]
        · rw [if_neg hq]
          refine f2 i hi ?_
          rcases hik with z | z
          · exact Or.inl (by omega)
          · exact Or.inr z
      · rw [if_neg hs]
        refine ih (k + 1) I1 (by omega) (by omega) f1 (fun i hi hik => ?_)
        by_cases hq : i = k
        · exact f2 i hi (Or.inr (by rw [hq]; exact hs))
        · refine f2 i hi ?_
          rcases hik with z | z
          · exact Or.inl (by omega)
          · exact Or.inr z
  exact l n 0 I (Nat.zero_le _) (by omega) (fun _ _ => rfl) (fun i hi hik => h0 i hi (hik.resolve_left (Nat.not_lt_zero _)))
theorem cn72_ok (n : Nat) (hn : 2400 < n) {c : Nat} (hc : c ≤ 32) (I : MI) (J : MJ) (h6 : I 44 6 = nI c) {V : Nat → Bool} (hV : ∀ i, i < c → I 71 i = bi (V i)) {s : Nat → Nat} (hs : ∀ i, i < c → I 45 i = 1 → I 46 i = nI (s i) ∧ s i < c) : ∃ I', lX10_clockNet_72 n n 0 I J = some (I', J) ∧ (∀ a, a ≠ 71 → a ≠ 73 → I' a = I a) ∧ ∀ i, i < c → I' 71 i = if I 45 i = 1 then bi (V (s i)) else I 71 i := by
  have l2 : ∀ Y : MI, (∀ a, a ≠ 73 → Y a = I a) → (∀ i, i < c → I 45 i = 1 → Y 73 i = bi (V (s i))) → ∀ q k I1, k ≤ c → c < q + k → (∀ a, a ≠ 71 → I1 a = Y a) → (∀ i, i < c → I1 71 i = if i < k ∧ I 45 i = 1 then bi (V (s i)) else I 71 i) → ∃ I', lX10_clockNet_123 n q (nI k) I1 J = some (I', J) ∧ (∀ a, a ≠ 71 → I' a = Y a) ∧ ∀ i, i < c → I' 71 i = if I 45 i = 1 then bi (V (s i)) else I 71 i := by
    intro Y y1 y2 q
    induction q with
    | zero => intro k I1 h1 h2; omega
    | succ q ih =>
      intro k I1 h1 h2 f1 f2
      have e : lX10_clockNet_123 n (q + 1) (nI k) I1 J = fX10_clockNet_123 n (lX10_clockNet_123 n q) (nI k) I1 J := rfl
      rw [e]
      unfold fX10_clockNet_123 fX10_clockNet_153
      rw [f1 44 (by decide), y1 44 (by decide), h6]
      by_cases hk : k = c
      · subst hk
        rw [if_pos (Int32.le_refl _)]
        refine ⟨I1, rfl, f1, fun i hi => ?_⟩
        rw [f2 i hi]
        simp only [hi, true_and]
      have hkc : k < c := by omega
      have ik : inb (nI k) 32 = true := inb_nI (by omega) (by decide)
      rw [if_neg (nI_ge (by omega) (by omega)), clampI (by omega), f1 45 (by decide), y1 45 (by decide), nI_1]
      simp only [ik, if_true]
      by_cases hs1 : I 45 k = 1
      · rw [if_pos hs1, f1 73 (by decide), y2 k hkc hs1, bi_z]
        simp only [lt]
        refine ih (k + 1) _ (by omega) (by omega) (fun a ha => by rw [upM_ne a ha]; exact f1 a ha) (fun i hi => ?_)
        rw [upM_get, if_pos rfl]
        by_cases hq : i = k
        · have hcon : i < k + 1 ∧ I 45 i = 1 := ⟨by omega, by rw [hq]; exact hs1⟩
          rw [if_pos hq, if_pos hcon, hq]
        · have : (i < k + 1) ↔ i < k := by omega
          rw [if_neg hq, f2 i hi]
          simp only [this]
      · rw [if_neg hs1]
        refine ih (k + 1) I1 (by omega) (by omega) f1 (fun i hi => ?_)
        rw [f2 i hi]
        by_cases hq : i = k
        · rw [if_neg (fun z => by omega), if_neg (fun z => hs1 (by rw [← hq]; exact z.2))]
        · have : (i < k + 1) ↔ i < k := by omega
          simp only [this]
  have l : ∀ q k I1, k ≤ c → c < q + k → (∀ a, a ≠ 73 → I1 a = I a) → (∀ i, i < k → I 45 i = 1 → I1 73 i = bi (V (s i))) → ∃ I', lX10_clockNet_72 n q (nI k) I1 J = some (I', J) ∧ (∀ a, a ≠ 71 → a ≠ 73 → I' a = I a) ∧ ∀ i, i < c → I' 71 i = if I 45 i = 1 then bi (V (s i)) else I 71 i := by
    intro q
    induction q with
    | zero => intro k I1 h1 h2; omega
    | succ q ih =>
      intro k I1 h1 h2 f1 f2
      have e : lX10_clockNet_72 n (q + 1) (nI k) I1 J = fX10_clockNet_72 n (lX10_clockNet_72 n q) (nI k) I1 J := rfl
      rw [e]
      unfold fX10_clockNet_72 fX10_clockNet_113 fX10_clockNet_114
      rw [f1 44 (by decide), h6]
      by_cases hk : k = c
      · subst hk
        rw [if_pos (Int32.le_refl _)]
        obtain ⟨I', g1, g2, g3⟩ := l2 I1 f1 (fun i hi => f2 i hi) n 0 I1 (Nat.zero_le _) (by omega) (fun _ _ => rfl) (fun i hi => by rw [if_neg (fun z => absurd z.1 (Nat.not_lt_zero _)), f1 71 (by decide)])
        exact ⟨I', g1, fun a q1 q2 => by rw [g2 a q1]; exact f1 a q2, g3⟩
      have hkc : k < c := by omega
      have ik : inb (nI k) 32 = true := inb_nI (by omega) (by decide)
      rw [if_neg (nI_ge (by omega) (by omega)), clampI (by omega), f1 45 (by decide), f1 46 (by decide), f1 71 (by decide), nI_1]
      simp only [ik, if_true, lt]
      have put : ∀ v : Bool, (I 45 k = 1 → v = V (s k)) → ∃ I', lX10_clockNet_72 n q (nI (k + 1)) (upM I1 73 k (bz (bi v))) J = some (I', J) ∧ (∀ a, a ≠ 71 → a ≠ 73 → I' a = I a) ∧ ∀ i, i < c → I' 71 i = if I 45 i = 1 then bi (V (s i)) else I 71 i := by
        intro v hv
        rw [bi_z]
        refine ih (k + 1) _ (by omega) (by omega) (fun a ha => by rw [upM_ne a ha]; exact f1 a ha) (fun i hi hs1 => ?_)
        rw [upM_get, if_pos rfl]
        by_cases hq : i = k
        · rw [if_pos hq, hv (by rw [← hq]; exact hs1), hq]
        · rw [if_neg hq]; exact f2 i (by omega) hs1
      by_cases hs1 : I 45 k = 1
      · obtain ⟨e46, hsc⟩ := hs k hkc hs1
        rw [if_pos hs1, e46, if_pos (inb_nI (by omega) (by decide)), clampI (by omega), hV _ hsc]
        cases hv : V (s k) with
        | true => rw [if_neg (by decide)]; exact put true (fun _ => hv.symm)
        | false => rw [if_pos (by decide)]; exact put false (fun _ => hv.symm)
      · rw [if_neg hs1]
        exact put false (fun z => absurd z hs1)
  exact l n 0 I (Nat.zero_le _) (by omega) (fun _ _ => rfl) (fun i hi => absurd hi (Nat.not_lt_zero _))
