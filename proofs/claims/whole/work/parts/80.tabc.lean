/-! the class finds its tables -/
theorem bt_sh' {x : Int32} {o i : Nat} (ho : o < 32) (hi : i < 32) : bt (x ||| ((1 : Int32) <<< (nI o &&& 31))) i = true ↔ bt x i = true ∨ i = o := by
  rw [b_or, bt_sh ho hi]
  simp
theorem asked_ok (n : Nat) (hn : 2400 < n) {c no : Nat} (hc : c ≤ 32) (hno : no ≤ 8) (I : MI) (J : MJ) (h5 : I 1 5 = nI c) (h8 : I 1 8 = nI no) (houts : ∀ k, k < no → ∃ o, o < c ∧ I 6 k = nI o) (hk : ∀ j, j < c → I 2 j = 1 → ∃ o, o < c ∧ I 3 j = nI o) (hg : ∀ i, i < 32 → bt (I 1 9) i = decide (i < c ∧ I 2 i = 2)) : ∃ v, fX7_askedFor n I J = some (v, I, J) ∧ ∀ i, i < 32 → (bt v i = true ↔ tw0 c no (I 2) (I 3) (I 6) i) := by
  have l2 : ∀ q j x, j ≤ c → c < q + j → (∀ i, i < 32 → (bt x i = true ↔ (∃ k, k < no ∧ I 6 k = nI i) ∨ ∃ z, z < j ∧ I 2 z = 1 ∧ I 3 z = nI i)) → ∃ v, lX7_askedFor_31 n q x (nI j) I J = some (v, I, J) ∧ ∀ i, i < 32 → (bt v i = true ↔ tw0 c no (I 2) (I 3) (I 6) i) := by
    intro q
    induction q with
    | zero => intro j x h1 h2; omega
    | succ q ih =>
      intro j x h1 h2 hx
      have e : lX7_askedFor_31 n (q + 1) x (nI j) I J = fX7_askedFor_31 n (lX7_askedFor_31 n q) x (nI j) I J := rfl
      rw [e]
      unfold fX7_askedFor_31 fX7_askedFor_60
      rw [h5]
      by_cases hj : j = c
      · subst hj
        rw [if_pos (Int32.le_refl _)]
        refine ⟨_, rfl, fun i hi => ?_⟩
        rw [b_and, hg i hi]
        simp only [Bool.and_eq_true, decide_eq_true_eq, hx i hi]
        unfold tw0
        constructor
        · rintro ⟨p1, p2, p3⟩; exact ⟨p2, p3, p1⟩
        · rintro ⟨p2, p3, p1⟩; exact ⟨p1, p2, p3⟩
      · rw [if_neg (nI_ge (by omega) (by omega)), if_pos (inb_nI (by omega) (by decide)), clampI (by omega), nI_1]
        by_cases hs : I 2 j = 1
        · obtain ⟨o, ho, e3⟩ := hk j (by omega) hs
          rw [if_pos hs, if_pos (inb_nI (by omega) (by decide)), e3]
          simp only [lt]
          refine ih (j + 1) _ (by omega) (by omega) (fun i hi => ?_)
          rw [bt_sh' (by omega) hi, hx i hi]
          constructor
          · rintro ((p | ⟨z, p1, p2⟩) | p)
            · exact Or.inl p
            · exact Or.inr ⟨z, by omega, p2⟩
            · exact Or.inr ⟨j, by omega, hs, by rw [e3, p]⟩
          · rintro (p | ⟨z, p1, p2, p3⟩)
            · exact Or.inl (Or.inl p)
            · by_cases hz : z = j
              · subst hz
                exact Or.inr ((nI_eq (by omega) (by omega)).mp (p3.symm.trans e3))
              · exact Or.inl (Or.inr ⟨z, by omega, p2, p3⟩)
        · rw [if_neg hs]
          refine ih (j + 1) _ (by omega) (by omega) (fun i hi => ?_)
          rw [hx i hi]
          constructor
          · rintro (p | ⟨z, p1, p2⟩)
            · exact Or.inl p
            · exact Or.inr ⟨z, by omega, p2⟩
          · rintro (p | ⟨z, p1, p2, p3⟩)
            · exact Or.inl p
            · by_cases hz : z = j
              · subst hz
                exact absurd p2 hs
              · exact Or.inr ⟨z, by omega, p2, p3⟩
  have l1 : ∀ q j x, j ≤ no → no < q + j → (∀ i, i < 32 → (bt x i = true ↔ ∃ k, k < j ∧ I 6 k = nI i)) → ∃ v, lX7_askedFor_4 n q x (nI j) I J = some (v, I, J) ∧ ∀ i, i < 32 → (bt v i = true ↔ tw0 c no (I 2) (I 3) (I 6) i) := by
    intro q
    induction q with
    | zero => intro j x h1 h2; omega
    | succ q ih =>
      intro j x h1 h2 hx
      have e : lX7_askedFor_4 n (q + 1) x (nI j) I J = fX7_askedFor_4 n (lX7_askedFor_4 n q) x (nI j) I J := rfl
      rw [e]
      unfold fX7_askedFor_4
      rw [h8]
      by_cases hj : j = no
      · subst hj
        rw [if_pos (Int32.le_refl _)]
        refine l2 n 0 x (by omega) (by omega) (fun i hi => ?_)
        rw [hx i hi]
        constructor
        · exact fun p => Or.inl p
        · rintro (p | ⟨z, p1, -⟩)
          · exact p
          · omega
      · obtain ⟨o, ho, e6⟩ := houts j (by omega)
        rw [if_neg (nI_ge (by omega) (by omega)), if_pos (inb_nI (by omega) (by decide)), clampI (by omega), nI_1, e6]
        simp only [lt]
        refine ih (j + 1) _ (by omega) (by omega) (fun i hi => ?_)
        rw [bt_sh' (by omega) hi, hx i hi]
        constructor
        · rintro (⟨z, p1, p2⟩ | p)
          · exact ⟨z, by omega, p2⟩
          · exact ⟨j, by omega, by rw [e6, p]⟩
        · rintro ⟨z, p1, p2⟩
          by_cases hz : z = j
          · subst hz
            exact Or.inr ((nI_eq (by omega) (by omega)).mp (p2.symm.trans e6))
          · exact Or.inl ⟨z, by omega, p2⟩
  exact l1 n 0 0 (by omega) (by omega) (fun i hi => by
    rw [b_0]
    constructor
    · intro h; cases h
    · rintro ⟨z, p1, -⟩; omega)
theorem hasBit_n (n : Nat) {s i : Nat} (hi : i < 32) (I : MI) (J : MJ) : fX9_hasBit n (nI s).toInt64 (nI i) I J = some (b2 (s.testBit i = true), I, J) := by
  rw [hasBit_eq n _ (by omega), bl_wide _ hi, bt_n hi]
theorem takeL_ok (n : Nat) (hn : 2400 < n) {g s : Nat} (hg : g < 32) (hs : s < 2 ^ g) (h4 : ct_pop 32 s ≤ 4) (I : MI) (J : MJ) : ∃ I', fX7_takeLetters n (nI g) (nI s) I J = some (I', J) ∧ (∀ a, a ≠ 12 → a ≠ 14 → I' a = I a) ∧ (∀ b, b ≠ g → I' 12 b = I 12 b) ∧ I' 12 g = nI (ct_pop 32 s) ∧ (∀ b, (b < 4 * g ∨ 4 * g + 4 ≤ b) → I' 14 b = I 14 b) ∧ ∀ i, i < g → s.testBit i = true → I' 14 (4 * g + ct_pop i s) = nI i := by
  have l : ∀ q k I1, k ≤ g → g < q + k → (∀ a, a ≠ 14 → I1 a = I a) → (∀ b, (b < 4 * g ∨ 4 * g + 4 ≤ b) → I1 14 b = I 14 b) → (∀ i, i < k → s.testBit i = true → I1 14 (4 * g + ct_pop i s) = nI i) → ∃ I', lX7_takeLetters_5 n q (nI g) (nI s) (nI (ct_pop k s)) (nI k) I1 J = some (I', J) ∧ (∀ a, a ≠ 12 → a ≠ 14 → I' a = I a) ∧ (∀ b, b ≠ g → I' 12 b = I 12 b) ∧ I' 12 g = nI (ct_pop 32 s) ∧ (∀ b, (b < 4 * g ∨ 4 * g + 4 ≤ b) → I' 14 b = I 14 b) ∧ ∀ i, i < g → s.testBit i = true → I' 14 (4 * g + ct_pop i s) = nI i := by
    intro q
    induction q with
    | zero => intro k I1 h1 h2; omega
    | succ q ih =>
      intro k I1 h1 h2 f1 f2 f3
      have hpk := ct_pop_mono s (a := k) 32 (by omega)
      have e : lX7_takeLetters_5 n (q + 1) (nI g) (nI s) (nI (ct_pop k s)) (nI k) I1 J = fX7_takeLetters_5 n (lX7_takeLetters_5 n q) (nI g) (nI s) (nI (ct_pop k s)) (nI k) I1 J := rfl
      rw [e]
      have fin : ct_pop k s = ct_pop 32 s → (∀ i, i < g → s.testBit i = true → i < k) → ∃ I', fX7_takeLetters_47 n (nI g) (nI (ct_pop k s)) I1 J = some (I', J) ∧ (∀ a, a ≠ 12 → a ≠ 14 → I' a = I a) ∧ (∀ b, b ≠ g → I' 12 b = I 12 b) ∧ I' 12 g = nI (ct_pop 32 s) ∧ (∀ b, (b < 4 * g ∨ 4 * g + 4 ≤ b) → I' 14 b = I 14 b) ∧ ∀ i, i < g → s.testBit i = true → I' 14 (4 * g + ct_pop i s) = nI i := by
        intro e1 e2
        unfold fX7_takeLetters_47
        rw [if_pos (inb_nI (by omega) (by decide)), clampI (by omega), e1]
        refine ⟨_, rfl, fun a q1 q2 => ?_, fun b hb => ?_, ?_, fun b hb => ?_, fun i hi hb => ?_⟩
        · rw [upM_ne a q1]; exact f1 a q2
        · rw [upM_get, if_pos rfl, if_neg hb, f1 12 (by decide)]
        · rw [upM_get, if_pos rfl, if_pos rfl]
        · rw [upM_ne 14 (by decide)]; exact f2 b hb
        · rw [upM_ne 14 (by decide)]; exact f3 i (e2 i hi hb) hb
      unfold fX7_takeLetters_5 fX7_takeLetters_41
      by_cases hk : k = g
      · subst hk
        rw [if_pos (Int32.le_refl _)]
        exact fin (ct_pop_ext hs 32 (by omega)).symm (fun i hi _ => hi)
      · rw [if_neg (nI_ge (by omega) (by omega))]
        by_cases hp4 : ct_pop k s = 4
        · rw [if_pos (by rw [hp4]; decide)]
          refine fin (by omega) (fun i hi hb => ?_)
          by_cases hik : i < k
          · exact hik
          · have q1 := ct_pop_mono s (a := k) i (by omega)
            have q2 := ct_pop_lt hb (k := 32) (by omega)
            omega
        · rw [if_neg (show ¬ (4 : Int32) ≤ nI (ct_pop k s) from nI_ge (b := 4) (by omega) (by decide)), hasBit_n n (by omega), nI_1, nI_1]
          simp only [Option.bind_some]
          have ep : ct_pop (k + 1) s = (if s.testBit k = true then ct_pop k s + 1 else ct_pop k s) := rfl
          by_cases hb : s.testBit k = true
          · have e4 : nI g * 4 + nI (ct_pop k s) = nI (4 * g + ct_pop k s) := by rw [show (4 : Int32) = nI 4 from rfl, pk_mul, nI_add, Nat.mul_comm]
            rw [b2_t hb, if_neg (by decide), e4, if_pos (inb_nI (by omega) (by decide)), clampI (by omega)]
            simp only [lt]
            rw [if_pos hb] at ep
            rw [← ep]
            refine ih (k + 1) _ (by omega) (by omega) (fun a q1 => ?_) (fun b q1 => ?_) (fun i q1 q2 => ?_)
            · rw [upM_ne a q1]; exact f1 a q1
            · rw [upM_get, if_pos rfl, if_neg (by omega)]; exact f2 b q1
            · rw [upM_get, if_pos rfl]
              by_cases hik : i = k
              · subst hik
                rw [if_pos rfl]
              · have := ct_pop_lt q2 (k := k) (by omega)
                rw [if_neg (by omega)]
                exact f3 i (by omega) q2
          · rw [b2_f hb, if_pos rfl]
            rw [if_neg hb] at ep
            rw [← ep]
            refine ih (k + 1) _ (by omega) (by omega) f1 f2 (fun i q1 q2 => ?_)
            by_cases hik : i = k
            · subst hik
              exact absurd q2 hb
            · exact f3 i (by omega) q2
  exact l n 0 I (by omega) (by omega) (fun _ _ => rfl) (fun _ _ => rfl) (fun i hi => absurd hi (Nat.not_lt_zero _))
theorem odd64 : ∀ x, x < 64 → decide (nI x &&& 1 = 1) = x.testBit 0 := by decide +kernel
theorem word_ok (n k : Nat) (hk : alb 44 k = 32) {x : Nat} (hx : x < 64) (I : MI) (J : MJ) : ∃ w, fX3_word n (nI x) k I J = some (w, I, J) ∧ ∀ i, i < 32 → bt w i = (bt (I k (x / 2)) i ^^ x.testBit 0) := by
  unfold fX3_word
  rw [half64 x hx, hk, if_pos (inb_nI (by omega) (by decide)), clampI (by omega)]
  simp only [lt]
  have ho := odd64 x hx
  by_cases h : nI x &&& 1 = 1
  · rw [if_pos h]
    rw [decide_eq_true h] at ho
    refine ⟨_, rfl, fun i hi => ?_⟩
    rw [b_xor, b_m1 i hi, ← ho]
  · rw [if_neg h]
    rw [decide_eq_false h] at ho
    refine ⟨_, rfl, fun i hi => ?_⟩
    rw [← ho]
    simp
theorem reckon_ok (n k : Nat) (hk : alb 44 k = 32) {c x y o : Nat} (hc : c < 32) (hx : x < 64) (hy : y < 64) (ho : o < 3) (I : MI) (J : MJ) (h3 : I 3 c = nI x) (h4 : I 4 c = nI y) (h5 : I 5 c = nI o) : ∃ w, fX3_reckon n (nI c) k I J = some (w, I, J) ∧ ∀ i, i < 32 → bt w i = opB o (bt (I k (x / 2)) i ^^ x.testBit 0) (bt (I k (y / 2)) i ^^ y.testBit 0) := by
  obtain ⟨u, u1, u2⟩ := word_ok n k hk hx I J
  obtain ⟨v, v1, v2⟩ := word_ok n k hk hy I J
  unfold fX3_reckon
  simp only [inb_nI hc (by decide), if_true, clampI (show c < 2 ^ 31 by omega), h3]
  rw [u1]
  simp only [Option.bind_some, lt, h4]
  rw [v1]
  simp only [Option.bind_some, h5]
  have hoc : o = 0 ∨ o = 1 ∨ o = 2 := by omega
  rcases hoc with rfl | rfl | rfl
  · rw [if_pos (by decide)]
    exact ⟨_, rfl, fun i hi => by rw [b_and, u2 i hi, v2 i hi]; rfl⟩
  · rw [if_neg (by decide), if_pos (by decide)]
    exact ⟨_, rfl, fun i hi => by rw [b_or, u2 i hi, v2 i hi]; rfl⟩
  · rw [if_neg (by decide), if_neg (by decide)]
    exact ⟨_, rfl, fun i hi => by rw [b_xor, u2 i hi, v2 i hi]; rfl⟩
theorem lbf_bit : ∀ j, j < 4 → ∀ i, i < 16 → bt (lbf j) i = i.testBit j := by decide +kernel
theorem reckonBits_ok (n : Nat) (hn : 2400 < n) {g s : Nat} (hg : g < 32) (hs : s < 2 ^ g) (h4 : ct_pop 32 s ≤ 4) (I : MI) (J : MJ) (hin : ∀ c, c ≤ g → gateIn I c) : ∃ b I' V, fX7_reckonBits n (nI g) (nI s) I J = some (nI b, I', J) ∧ b < 65536 ∧ (∀ a, a ≠ 15 → I' a = I a) ∧ valOk I g s V ∧ ∀ i, i < 16 → b.testBit i = V i g := by
  have l : ∀ q k I1, k ≤ g + 1 → g + 1 < q + k → (∀ a, a ≠ 15 → I1 a = I a) → (∀ i, i < 16 → ∀ c, c < k → bt (I1 15 c) i = valR I s (fun i c => bt (I1 15 c) i) i c) → ∃ b I' V, lX7_reckonBits_6 n q (nI g) (nI s) (nI (ct_pop k s)) (nI k) I1 J = some (nI b, I', J) ∧ b < 65536 ∧ (∀ a, a ≠ 15 → I' a = I a) ∧ valOk I g s V ∧ ∀ i, i < 16 → b.testBit i = V i g := by
    intro q
    induction q with
    | zero => intro k I1 h1 h2; omega
    | succ q ih =>
      intro k I1 h1 h2 f1 f2
      have e : lX7_reckonBits_6 n (q + 1) (nI g) (nI s) (nI (ct_pop k s)) (nI k) I1 J = fX7_reckonBits_6 n (lX7_reckonBits_6 n q) (nI g) (nI s) (nI (ct_pop k s)) (nI k) I1 J := rfl
      rw [e]
      unfold fX7_reckonBits_6
      by_cases hk : k = g + 1
      · subst hk
        rw [if_pos (nI_lt (by omega) (by omega)), if_pos (inb_nI (by omega) (by decide)), clampI (by omega)]
        obtain ⟨b, hb1, hb2⟩ := nx_mask (I1 15 g)
        refine ⟨b, I1, fun i c => bt (I1 15 c) i, by rw [hb2], hb1, f1, fun i hi c hc => f2 i hi c (by omega), fun i hi => ?_⟩
        have := congrArg (fun z => bt z i) hb2
        simp only [b_and, b_65535] at this
        rw [bt_n (by omega)] at this
        rw [← this]
        simp [hi]
      have hkg : k ≤ g := by omega
      rw [if_neg (nI_nlt (by omega) (by omega)), hasBit_n n (by omega)]
      simp only [Option.bind_some]
      have ep : ct_pop (k + 1) s = (if s.testBit k = true then ct_pop k s + 1 else ct_pop k s) := rfl
      /- one cell is set: what was before stays -/
      have put : ∀ w : Int32, (∀ i, i < 16 → bt w i = valR I s (fun i c => bt (I1 15 c) i) i k) → ∀ i, i < 16 → ∀ c, c < k + 1 → bt (upM I1 15 k w 15 c) i = valR I s (fun i c => bt (upM I1 15 k w 15 c) i) i c := by
        intro w hw i hi c hc
        have same : ∀ z, z < k → bt (upM I1 15 k w 15 z) i = bt (I1 15 z) i := fun z hz => by rw [upM_get, if_pos rfl, if_neg (by omega)]
        have cg : valR I s (fun i c => bt (upM I1 15 k w 15 c) i) i c = valR I s (fun i c => bt (I1 15 c) i) i c := valR_congr (by omega) (hin c (by omega)) (fun z hz => same z (by omega))
        rw [cg]
        by_cases hck : c = k
        · subst hck
          rw [upM_get, if_pos rfl, if_pos rfl]
          exact hw i hi
        · rw [same c (by omega)]
          exact f2 i hi c (by omega)
      have fr : ∀ w : Int32, ∀ a, a ≠ 15 → upM I1 15 k w a = I a := fun w a ha => by rw [upM_ne a ha]; exact f1 a ha
      by_cases hb : s.testBit k = true
      · have hp := ct_pop_lt hb (k := 32) (by omega)
        rw [b2_t hb, if_neg (by decide), if_neg (show ¬ (4 : Int32) ≤ nI (ct_pop k s) from nI_ge (b := 4) (by omega) (by decide)), if_pos (inb_nI (by omega) (by decide)), if_pos (inb_nI (by omega) (by decide)), clampI (by omega), clampI (by omega)]
        unfold fX7_reckonBits_79
        simp only [lt]
        rw [nI_1, nI_1]
        rw [if_pos hb] at ep
        rw [← ep]
        refine ih (k + 1) _ (by omega) (by omega) (fr _) (put _ (fun i hi => ?_))
        unfold valR
        rw [if_pos hb]
        exact lbf_bit _ (by omega) i hi
      · rw [b2_f hb, if_pos rfl]
        unfold fX7_reckonBits_47 fX7_reckonBits_78 fX7_reckonBits_79
        rw [if_pos (inb_nI (by omega) (by decide)), clampI (by omega), f1 2 (by decide), nI_1]
        rw [if_neg hb] at ep
        by_cases hs2 : I 2 k = 2
        · obtain ⟨x, y, o, hx, hy, ho, e3, e4, e5⟩ := hin k hkg hs2
          obtain ⟨w, w1, w2⟩ := reckon_ok n 15 aln_15 (c := k) (x := x) (y := y) (o := o) (by omega) (by omega) (by omega) ho I1 J (by rw [f1 3 (by decide)]; exact e3) (by rw [f1 4 (by decide)]; exact e4) (by rw [f1 5 (by decide)]; exact e5)
          rw [if_pos hs2, w1]
          simp only [Option.bind_some, lt]
          rw [if_pos (inb_nI (by omega) (by decide)), ← ep]
          refine ih (k + 1) _ (by omega) (by omega) (fr _) (put _ (fun i hi => ?_))
          unfold valR
          rw [if_neg hb, if_pos hs2, e3, e4, e5, nI_clamp (by omega), nI_clamp (by omega), nI_clamp (by omega)]
          exact w2 i (by omega)
        · rw [if_neg hs2]
          simp only [lt]
          rw [if_pos (inb_nI (by omega) (by decide)), ← ep]
          refine ih (k + 1) _ (by omega) (by omega) (fr _) (put _ (fun i hi => ?_))
          unfold valR
          rw [if_neg hb, if_neg hs2, b_0]
  exact l n 0 I (by omega) (by omega) (fun _ _ => rfl) (fun i _ c hc => absurd hc (Nat.not_lt_zero _))
