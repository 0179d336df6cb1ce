/-! clock: the class's keepers of the cloth, the reference's cloth -/
theorem sc71_ok (n : Nat) (hn : 2400 < n) {c : Nat} (hc : c ≤ 32) (I : MI) (J : MJ) (h5 : I 1 5 = nI c) {L : Nat → Nat} {g : Nat → Bool} (hL : ∀ i, i < c → I 2 i = 1 → fX1_letterThere n (nI i) 0 I J = some (nI (L i), I, J)) (hg : ∀ i, i < c → I 2 i = 1 → fX6_letterValue n (nI (L i)) I J = some (bi (g i), I, J)) : ∃ I', lX6_stepCloth_71 n n 0 0 I J = some (I', J) ∧ (∀ a, a ≠ 38 → a ≠ 40 → I' a = I a) ∧ (∀ j, I' 38 j = if j = 3 ∧ I 38 3 = -1 ∧ ¬ I 38 2 = I 38 1 then I 38 0 else I 38 j) ∧ ∀ i, I' 40 i = if i < c ∧ I 2 i = 1 then bi (g i) else I 40 i := by
  have l : ∀ q k x, k ≤ c → c < q + k → (∀ i, i < 32 → (bt x i = true ↔ i < k ∧ I 2 i = 1 ∧ g i = true)) → ∃ I', lX6_stepCloth_71 n q x (nI k) I J = some (I', J) ∧ (∀ a, a ≠ 38 → a ≠ 40 → I' a = I a) ∧ (∀ j, I' 38 j = if j = 3 ∧ I 38 3 = -1 ∧ ¬ I 38 2 = I 38 1 then I 38 0 else I 38 j) ∧ ∀ i, I' 40 i = if i < c ∧ I 2 i = 1 then bi (g i) else I 40 i := by
    intro q
    induction q with
    | zero => intro k x h1 h2; omega
    | succ q ih =>
      intro k x h1 h2 hx
      have e : lX6_stepCloth_71 n (q + 1) x (nI k) I J = fX6_stepCloth_71 n (lX6_stepCloth_71 n q) x (nI k) I J := rfl
      rw [e]
      unfold fX6_stepCloth_71 fX6_stepCloth_111
      rw [h5]
      by_cases hk : k = c
      · subst hk
        obtain ⟨I', g1, g2, g3⟩ := setK_ok n hn hc aln_40 (by decide) (by decide) x I J h5
        have v40 : ∀ i, I' 40 i = if i < k ∧ I 2 i = 1 then bi (g i) else I 40 i := by
          intro i
          rw [g3 i]
          by_cases hcon : i < k ∧ I 2 i = 1
          · rw [if_pos hcon, if_pos hcon]
            have hxi := hx i (by omega)
            have : bt x i = g i := by
              cases q1 : bt x i <;> cases q2 : g i <;> simp_all
            rw [this]
          · rw [if_neg hcon, if_neg hcon]
        rw [if_pos (Int32.le_refl _), g1]
        simp only [Option.bind_some, lt]
        rw [g2 38 (by decide)]
        by_cases d1 : I 38 3 = -1
        · rw [if_pos d1]
          by_cases d2 : I 38 2 = I 38 1
          · rw [if_pos d2]
            exact ⟨I', rfl, fun a q1 q2 => g2 a q2, fun j => by rw [if_neg (fun z => z.2.2 d2), g2 38 (by decide)], v40⟩
          · rw [if_neg d2]
            refine ⟨_, rfl, fun a q1 q2 => by rw [upM_ne a q1]; exact g2 a q2, fun j => ?_, fun i => by rw [upM_ne 40 (by decide)]; exact v40 i⟩
            rw [upM_get, if_pos rfl]
            by_cases hj : j = 3
            · rw [if_pos hj, if_pos ⟨hj, d1, d2⟩]
            · rw [if_neg hj, if_neg (fun z => hj z.1), g2 38 (by decide)]
        · rw [if_neg d1]
          exact ⟨I', rfl, fun a q1 q2 => g2 a q2, fun j => by rw [if_neg (fun z => d1 z.2.1), g2 38 (by decide)], v40⟩
      have ik : inb (nI k) 32 = true := inb_nI (by omega) (by decide)
      rw [if_neg (nI_ge (by omega) (by omega)), clampI (by omega), nI_1]
      simp only [ik, if_true]
      by_cases hs1 : I 2 k = 1
      · rw [if_pos hs1, hL k (by omega) hs1]
        simp only [Option.bind_some]
        rw [hg k (by omega) hs1]
        simp only [Option.bind_some, lt]
        cases hv : g k with
        | true =>
          refine ih (k + 1) _ (by omega) (by omega) (fun i hi => ?_)
          rw [show bi true = (1 : Int32) from rfl, bt_sh' (by omega) hi, hx i hi]
          constructor
          · rintro (⟨q1, q2⟩ | q1)
            · exact ⟨by omega, q2⟩
            · rw [q1]; exact ⟨by omega, hs1, hv⟩
          · rintro ⟨q1, q2⟩
            by_cases hik : i = k
            · exact Or.inr hik
            · exact Or.inl ⟨by omega, q2⟩
        | false =>
          rw [show bi false = (0 : Int32) from rfl, z_sh k (by omega), or_z]
          refine ih (k + 1) _ (by omega) (by omega) (fun i hi => ?_)
          rw [hx i hi]
          constructor
          · rintro ⟨q1, q2⟩; exact ⟨by omega, q2⟩
          · rintro ⟨q1, q2, q3⟩
            by_cases hik : i = k
            · rw [hik, hv] at q3; cases q3
            · exact ⟨by omega, q2, q3⟩
      · rw [if_neg hs1]
        refine ih (k + 1) _ (by omega) (by omega) (fun i hi => ?_)
        rw [hx i hi]
        constructor
        · rintro ⟨q1, q2⟩; exact ⟨by omega, q2⟩
        · rintro ⟨q1, q2, q3⟩
          by_cases hik : i = k
          · rw [hik] at q2; exact absurd q2 hs1
          · exact ⟨by omega, q2, q3⟩
  exact l n 0 0 (Nat.zero_le _) (by omega) (fun i hi => by
    rw [b_0]
    exact ⟨fun q => absurd q (by decide), fun q => absurd q.1 (Nat.not_lt_zero _)⟩)
theorem lIs_ok (n : Nat) {c i l : Nat} (hc : c ≤ 32) (hl : l < 256) (hi : i ≤ 32) (I0 M : MI) (J : MJ) (h6 : M 44 6 = nI c) (h45 : M 45 = I0 45) (h55 : M 55 = I0 55) {U : Nat → Bool} (h72 : l < c → thg I0 l → (¬ I0 45 l = 2 ∨ l < i) → M 72 l = bi (U l)) : fX10_letterIs n (nI l) (nI i) M J = some (bi (lv c I0 U i l), M, J) := by
  unfold fX10_letterIs fX10_letterIs_33
  rw [h6]
  have no : ¬ (l < c ∧ thg I0 l ∧ (¬ I0 45 l = 2 ∨ l < i)) → lv c I0 U i l = false := fun z => by
    unfold lv
    rw [decide_eq_false z]
    rfl
  have yes : (l < c ∧ thg I0 l ∧ (¬ I0 45 l = 2 ∨ l < i)) → lv c I0 U i l = U l := fun z => by
    unfold lv
    rw [decide_eq_true z, Bool.true_and]
  have fin : ∀ u : Bool, (if bi u = 0 then some ((0 : Int32), M, J) else some ((1 : Int32), M, J)) = some (bi u, M, J) := fun u => by cases u <;> rfl
  by_cases hlc : l < c
  · rw [if_neg (nI_ge hlc (by omega)), isThing_eq n (by omega), h45, h55]
    simp only [Option.bind_some]
    by_cases ht : thg I0 l
    · rw [b2_t ht, if_neg (by decide), if_pos (inb_nI (by omega) (by decide)), clampI (by omega), h45]
      by_cases hs : I0 45 l = 2
      · rw [if_pos hs]
        by_cases hli : l < i
        · rw [if_neg (nI_ge hli (by omega)), if_pos (inb_nI (by omega) (by decide)), h72 hlc ht (Or.inr hli), yes ⟨hlc, ht, Or.inr hli⟩]
          exact fin _
        · rw [if_pos (nI_le (by omega) (by omega)), no (fun z => z.2.2.elim (fun y => y hs) hli)]
          rfl
      · rw [if_neg hs, if_pos (inb_nI (by omega) (by decide)), h72 hlc ht (Or.inl hs), yes ⟨hlc, ht, Or.inl hs⟩]
        exact fin _
    · rw [b2_f ht, if_pos rfl, no (fun z => ht z.2.1)]
      rfl
  · rw [if_pos (nI_le (by omega) (by omega)), no (fun z => hlc z.1)]
    rfl
theorem cc36_ok (n : Nat) (hn : 2400 < n) {k2 : Int32 → MI → MJ → Option M2} {i k : Nat} (hi : i < 32) (hk : k ≤ 4) (M : MI) (J : MJ) (h57 : M 57 i = nI k) {ℓ : Nat → Nat} {f : Nat → Bool} {b : Int32} (hL : ∀ j, j < k → ∃ q, q < 1440 ∧ M 70 i + 3 + nI j = nI q ∧ M 68 q = nI (ℓ j)) (hv : ∀ j, j < k → fX10_letterIs n (nI (ℓ j)) (nI i) M J = some (bi (f j), M, J)) (hb : fX10_bitsThere n (nI i) M J = some (b, M, J)) : lX10_clockCloth_36 n k2 n (nI i) 0 0 M J = k2 (nI (i + 1)) (upM M 72 i (bi (bt b (vb f k)))) J := by
  have l : ∀ q j, j ≤ k → k < q + j → lX10_clockCloth_36 n k2 q (nI i) (nI (vb f j)) (nI j) M J = k2 (nI (i + 1)) (upM M 72 i (bi (bt b (vb f k)))) J := by
    intro q
    induction q with
    | zero => intro j h1 h2; omega
    | succ q ih =>
      intro j h1 h2
      have e : lX10_clockCloth_36 n k2 (q + 1) (nI i) (nI (vb f j)) (nI j) M J = fX10_clockCloth_36 n k2 (lX10_clockCloth_36 n k2 q) (nI i) (nI (vb f j)) (nI j) M J := rfl
      rw [e]
      unfold fX10_clockCloth_36 fX10_clockCloth_77 fX10_clockCloth_108 fX10_clockCloth_109
      have ii : inb (nI i) 32 = true := inb_nI hi (by decide)
      rw [if_pos ii, clampI (by omega), h57]
      by_cases hj : j = k
      · subst hj
        have hlt := vb_lt f j
        have h16 : 2 ^ j ≤ 2 ^ 4 := Nat.pow_le_pow_right (by decide) hk
        rw [if_pos (Int32.le_refl _), hb]
        simp only [Option.bind_some]
        have hbit : (b >>> (nI (vb f j) &&& 31)) &&& 1 = bi (bt b (vb f j)) := by
          rw [and1I, b_sshr (vb f j) (by omega) b (by decide), if_pos (by omega), Nat.add_zero]
        rw [hbit, nI_1]
        simp only [ii, if_true, lt]
        cases hx : bt b (vb f j) with
        | true => rw [if_pos (by decide)]; rfl
        | false => rw [if_neg (by decide)]; rfl
      · obtain ⟨p, p1, p2, p3⟩ := hL j (by omega)
        have st := vb_step f j
        rw [if_neg (nI_ge (by omega) (by omega)), if_pos ii, p2, if_pos (inb_nI p1 (by decide)), clampI (by omega), p3, hv j (by omega)]
        simp only [Option.bind_some, lt]
        rw [nI_1]
        cases hx : f j with
        | true =>
          rw [hx, if_pos rfl] at st
          rw [if_neg (by decide), one_sh j (by omega), st]
          exact ih (j + 1) (by omega) (by omega)
        | false =>
          rw [hx, if_neg (by decide)] at st
          rw [if_pos (by decide), show (0 : Int32) = nI 0 from rfl, st]
          exact ih (j + 1) (by omega) (by omega)
  exact l n 0 (Nat.zero_le _) (by omega)
theorem cc2_ok (n : Nat) (hn : 2400 < n) {c : Nat} (hc : c ≤ 32) (I0 I : MI) (J : MJ) {L : Nat → Nat → Nat} {K : Nat → Nat} {b : Nat → Int32} (hT : clT n c I0 J L K b) (h6 : I 44 6 = nI c) (hcells : I 45 = I0 45 ∧ I 55 = I0 55 ∧ I 57 = I0 57 ∧ I 68 = I0 68 ∧ I 70 = I0 70) {U : Nat → Bool} (hU1 : ∀ i, i < c → tabG c I0 i = true → U i = clV c I0 L K b U i) (h72 : ∀ i, i < c → ¬ I0 45 i = 2 → I 72 i = bi (U i)) : ∃ I', lX10_clockCloth_2 n n 0 I J = Option.bind (fX10_outsOf n 1 I' J) (fun r118 => lt (upM r118.2.1 44 44 r118.1) (fun I121 => lX10_clockCloth_126 n n 0 I121 r118.2.2)) ∧ (∀ a, a ≠ 72 → I' a = I a) ∧ ∀ i, i < c → thg I0 i → I' 72 i = bi (U i) := by
  obtain ⟨e45, e55, e57, e68, e70⟩ := hcells
  have l : ∀ q k I1, k ≤ c → c < q + k → (∀ a, a ≠ 72 → I1 a = I a) → (∀ i, i < c → thg I0 i → (¬ I0 45 i = 2 ∨ i < k) → I1 72 i = bi (U i)) → ∃ I', lX10_clockCloth_2 n q (nI k) I1 J = Option.bind (fX10_outsOf n 1 I' J) (fun r118 => lt (upM r118.2.1 44 44 r118.1) (fun I121 => lX10_clockCloth_126 n n 0 I121 r118.2.2)) ∧ (∀ a, a ≠ 72 → I' a = I a) ∧ ∀ i, i < c → thg I0 i → I' 72 i = bi (U i) := by
    intro q
    induction q with
    | zero => intro k I1 h1 h2; omega
    | succ q ih =>
      intro k I1 h1 h2 f1 f2
      have e : lX10_clockCloth_2 n (q + 1) (nI k) I1 J = fX10_clockCloth_2 n (lX10_clockCloth_2 n q) (nI k) I1 J := rfl
      rw [e]
      unfold fX10_clockCloth_2 fX10_clockCloth_109
      rw [f1 44 (by decide), h6]
      by_cases hk : k = c
      · subst hk
        rw [if_pos (Int32.le_refl _)]
        exact ⟨I1, rfl, f1, fun i hi ht => f2 i hi ht (Or.inr hi)⟩
      have hkc : k < c := by omega
      have ik : inb (nI k) 32 = true := inb_nI (by omega) (by decide)
      rw [if_neg (nI_ge (by omega) (by omega)), if_pos ik, clampI (by omega), f1 45 (by decide), f1 55 (by decide), e45, e55, nI_1]
      have skip : ¬ (I0 45 k = 2 ∧ ¬ I0 55 k = 0) → ∃ I', lX10_clockCloth_2 n q (nI (k + 1)) I1 J = Option.bind (fX10_outsOf n 1 I' J) (fun r118 => lt (upM r118.2.1 44 44 r118.1) (fun I121 => lX10_clockCloth_126 n n 0 I121 r118.2.2)) ∧ (∀ a, a ≠ 72 → I' a = I a) ∧ ∀ i, i < c → thg I0 i → I' 72 i = bi (U i) := by
        intro hnt
        refine ih (k + 1) I1 (by omega) (by omega) f1 (fun i hi ht hik => f2 i hi ht ?_)
        rcases hik with z | z
        · exact Or.inl z
        · by_cases hq : i = k
          · refine Or.inl (fun y => hnt ⟨by rw [← hq]; exact y, ?_⟩)
            rw [← hq]
            exact ht.resolve_left (fun w => w y)
          · exact Or.inr (by omega)
      by_cases hs : I0 45 k = 2
      · rw [if_pos hs, if_pos ik]
        by_cases h55 : I0 55 k = 0
        · rw [if_pos h55]
          exact skip (fun z => z.2 h55)
        · have hG : tabG c I0 k = true := decide_eq_true ⟨hkc, hs, h55⟩
          obtain ⟨k4, e12', e57', hl, hb1, hb2⟩ := hT.2 k hkc hs h55
          have hcc := cc36_ok n hn (k2 := lX10_clockCloth_2 n q) (show k < 32 by omega) k4 I1 J (by rw [f1 57 (by decide), e57]; exact e57') (f := fun j => lv c I0 U k (L k j)) (ℓ := L k) (b := b k) (fun j hj => by
              obtain ⟨p, p1, p2, p3⟩ := (hl j hj).2.2
              exact ⟨p, p1, by rw [f1 70 (by decide), e70]; exact p2, by rw [f1 68 (by decide), e68]; exact p3⟩) (fun j hj => lIs_ok n hc (hl j hj).1 (by omega) I0 I1 J (by rw [f1 44 (by decide)]; exact h6) (by rw [f1 45 (by decide)]; exact e45) (by rw [f1 55 (by decide)]; exact e55) (fun y1 y2 y3 => f2 _ y1 y2 y3)) (hb2 I1 (by rw [f1 57 (by decide)]; exact e57) (by rw [f1 68 (by decide)]; exact e68) (by rw [f1 70 (by decide)]; exact e70))
          have hval : bt (b k) (vb (fun j => lv c I0 U k (L k j)) (K k)) = U k := (hU1 k hkc hG).symm
          rw [hval] at hcc
          rw [if_neg h55, hcc]
          refine ih (k + 1) _ (by omega) (by omega) (fun a ha => by rw [upM_ne a ha]; exact f1 a ha) (fun i hi ht hik => ?_)
          rw [upM_get, if_pos rfl]
          by_cases hq : i = k
          · rw [if_pos hq, hq]
          · rw [if_neg hq]
            refine f2 i hi ht ?_
            rcases hik with z | z
            · exact Or.inl z
            · exact Or.inr (by omega)
      · rw [if_neg hs]
        exact skip (fun z => hs z.1)
  exact l n 0 I (Nat.zero_le _) (by omega) (fun _ _ => rfl) (fun i hi _ hik => h72 i hi (hik.resolve_right (Nat.not_lt_zero _)))
theorem cc126_ok (n : Nat) (hn : 2400 < n) {c : Nat} (hc : c ≤ 32) (I : MI) (J : MJ) (h6 : I 44 6 = nI c) {L : Nat → Nat} {g : Nat → Bool} (hL : ∀ i, i < c → I 45 i = 1 → ∃ q, q < 1440 ∧ I 70 i + 3 = nI q ∧ I 68 q = nI (L i)) (hg : ∀ i, i < c → I 45 i = 1 → ∀ M : MI, (∀ a, a ≠ 73 → M a = I a) → fX10_letterIs n (nI (L i)) 32 M J = some (bi (g i), M, J)) : ∃ I', lX10_clockCloth_126 n n 0 I J = some (I', J) ∧ (∀ a, a ≠ 72 → a ≠ 73 → I' a = I a) ∧ ∀ i, i < c → I' 72 i = if I 45 i = 1 then bi (g i) else I 72 i := by
  have l2 : ∀ Y : MI, (∀ a, a ≠ 73 → Y a = I a) → (∀ i, i < c → I 45 i = 1 → Y 73 i = bi (g i)) → ∀ q k I1, k ≤ c → c < q + k → (∀ a, a ≠ 72 → I1 a = Y a) → (∀ i, i < c → I1 72 i = if i < k ∧ I 45 i = 1 then bi (g i) else I 72 i) → ∃ I', lX10_clockCloth_185 n q (nI k) I1 J = some (I', J) ∧ (∀ a, a ≠ 72 → I' a = Y a) ∧ ∀ i, i < c → I' 72 i = if I 45 i = 1 then bi (g i) else I 72 i := by
    intro Y y1 y2 q
    induction q with
    | zero => intro k I1 h1 h2; omega
    | succ q ih =>
      intro k I1 h1 h2 f1 f2
      have e : lX10_clockCloth_185 n (q + 1) (nI k) I1 J = fX10_clockCloth_185 n (lX10_clockCloth_185 n q) (nI k) I1 J := rfl
      rw [e]
      unfold fX10_clockCloth_185 fX10_clockCloth_215
      rw [f1 44 (by decide), y1 44 (by decide), h6]
      by_cases hk : k = c
      · subst hk
        rw [if_pos (Int32.le_refl _)]
        refine ⟨I1, rfl, f1, fun i hi => ?_⟩
        rw [f2 i hi]
        simp only [hi, true_and]
      have hkc : k < c := by omega
      have ik : inb (nI k) 32 = true := inb_nI (by omega) (by decide)
      rw [if_neg (nI_ge (by omega) (by omega)), clampI (by omega), f1 45 (by decide), y1 45 (by decide), nI_1]
      simp only [ik, if_true]
      by_cases hs1 : I 45 k = 1
      · rw [if_pos hs1, f1 73 (by decide), y2 k hkc hs1, bi_z]
        simp only [lt]
        refine ih (k + 1) _ (by omega) (by omega) (fun a ha => by rw [upM_ne a ha]; exact f1 a ha) (fun i hi => ?_)
        rw [upM_get, if_pos rfl]
        by_cases hq : i = k
        · have hcon : i < k + 1 ∧ I 45 i = 1 := ⟨by omega, by rw [hq]; exact hs1⟩
          rw [if_pos hq, if_pos hcon, hq]
        · have : (i < k + 1) ↔ i < k := by omega
          rw [if_neg hq, f2 i hi]
          simp only [this]
      · rw [if_neg hs1]
        refine ih (k + 1) I1 (by omega) (by omega) f1 (fun i hi => ?_)
        rw [f2 i hi]
        by_cases hq : i = k
        · rw [if_neg (fun z => by omega), if_neg (fun z => hs1 (by rw [← hq]; exact z.2))]
        · have : (i < k + 1) ↔ i < k := by omega
          simp only [this]
  have l : ∀ q k I1, k ≤ c → c < q + k → (∀ a, a ≠ 73 → I1 a = I a) → (∀ i, i < k → I 45 i = 1 → I1 73 i = bi (g i)) → ∃ I', lX10_clockCloth_126 n q (nI k) I1 J = some (I', J) ∧ (∀ a, a ≠ 72 → a ≠ 73 → I' a = I a) ∧ ∀ i, i < c → I' 72 i = if I 45 i = 1 then bi (g i) else I 72 i := by
    intro q
    induction q with
    | zero => intro k I1 h1 h2; omega
    | succ q ih =>
      intro k I1 h1 h2 f1 f2
      have e : lX10_clockCloth_126 n (q + 1) (nI k) I1 J = fX10_clockCloth_126 n (lX10_clockCloth_126 n q) (nI k) I1 J := rfl
      rw [e]
      unfold fX10_clockCloth_126 fX10_clockCloth_175 fX10_clockCloth_176
      rw [f1 44 (by decide), h6]
      by_cases hk : k = c
      · subst hk
        rw [if_pos (Int32.le_refl _)]
        obtain ⟨I', g1, g2, g3⟩ := l2 I1 f1 (fun i hi => f2 i hi) n 0 I1 (Nat.zero_le _) (by omega) (fun _ _ => rfl) (fun i hi => by rw [if_neg (fun z => absurd z.1 (Nat.not_lt_zero _)), f1 72 (by decide)])
        exact ⟨I', g1, fun a q1 q2 => by rw [g2 a q1]; exact f1 a q2, g3⟩
      have hkc : k < c := by omega
      have ik : inb (nI k) 32 = true := inb_nI (by omega) (by decide)
      rw [if_neg (nI_ge (by omega) (by omega)), clampI (by omega), f1 45 (by decide), f1 70 (by decide), f1 68 (by decide), nI_1]
      simp only [ik, if_true, lt]
      have put : ∀ v : Bool, (I 45 k = 1 → v = g k) → ∃ I', lX10_clockCloth_126 n q (nI (k + 1)) (upM I1 73 k (bz (bi v))) J = some (I', J) ∧ (∀ a, a ≠ 72 → a ≠ 73 → I' a = I a) ∧ ∀ i, i < c → I' 72 i = if I 45 i = 1 then bi (g i) else I 72 i := by
        intro v hv
        rw [bi_z]
        refine ih (k + 1) _ (by omega) (by omega) (fun a ha => by rw [upM_ne a ha]; exact f1 a ha) (fun i hi hs1 => ?_)
        rw [upM_get, if_pos rfl]
        by_cases hq : i = k
        · rw [if_pos hq, hv (by rw [← hq]; exact hs1), hq]
        · rw [if_neg hq]; exact f2 i (by omega) hs1
      by_cases hs1 : I 45 k = 1
      · obtain ⟨p, p1, p2, p3⟩ := hL k hkc hs1
        rw [if_pos hs1, p2, if_pos (inb_nI p1 (by decide)), clampI (by omega), p3, hg k hkc hs1 I1 f1]
        simp only [Option.bind_some]
        cases hv : g k with
        | true => rw [if_neg (by decide)]; exact put true (fun _ => hv.symm)
        | false => rw [if_pos (by decide)]; exact put false (fun _ => hv.symm)
      · rw [if_neg hs1]
        exact put false (fun z => absurd z hs1)
  exact l n 0 I (Nat.zero_le _) (by omega) (fun _ _ => rfl) (fun i hi => absurd hi (Nat.not_lt_zero _))
