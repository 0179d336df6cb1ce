/-! copy -/
theorem add64 (x y : Int32) : (x.toInt64 + y.toInt64).toInt = x.toInt + y.toInt := by
  rw [Int64.toInt_add, Int32.toInt_toInt64, Int32.toInt_toInt64]
  have h1 := x.minValue_le_toInt
  have h2 := x.toInt_lt
  have h3 := y.minValue_le_toInt
  have h4 := y.toInt_lt
  have e : Int32.minValue.toInt = -2147483648 := by decide
  rw [e] at h1 h3
  apply Int.bmod_eq_of_le <;> omega
theorem lgc_pos (a b : Int64) : 0 < lg_cmp a b ↔ b.toInt < a.toInt := by
  unfold lg_cmp
  rw [← Int64.lt_iff_toInt_lt]
  by_cases h : a > b
  · rw [if_pos h]
    exact ⟨fun _ => h, fun _ => by decide⟩
  · rw [if_neg h]
    constructor
    · intro q
      by_cases h2 : a = b
      · rw [if_pos h2] at q; exact absurd q (by decide)
      · rw [if_neg h2] at q; exact absurd q (by decide)
    · intro q; exact absurd q h
theorem hasStretch_eq (n : Nat) (x l : Int32) (I : MI) (J : MJ) : fX4_hasStretch n x l I J = some (b2 (0 ≤ x.toInt ∧ x.toInt + l.toInt ≤ (I 41 1).toInt), I, J) := by
  unfold fX4_hasStretch
  by_cases h1 : x < 0
  · rw [if_pos h1, b2_f (fun h => by have := lt0.mp h1; omega)]
  · rw [if_neg h1]
    have h1' : 0 ≤ x.toInt := by have := mt lt0.mpr h1; omega
    by_cases h2 : 0 < lg_cmp (x.toInt64 + l.toInt64) (I 41 1).toInt64
    · rw [if_pos h2, b2_f (fun h => by have := (lgc_pos _ _).mp h2; rw [add64, Int32.toInt_toInt64] at this; omega)]
    · rw [if_neg h2, b2_t ⟨h1', by have := mt (lgc_pos _ _).mpr h2; rw [add64, Int32.toInt_toInt64] at this; omega⟩]
def mv1 (I : MI) (i k : Nat) : MI := fun a b => if a = 75 ∧ b < k then I 74 (i + b) else I a b
def mv2 (I : MI) (i j k : Nat) : MI := fun a b => if a = 74 ∧ j ≤ b ∧ b < j + k then I 74 (i + (b - j)) else I a b
theorem cp2_loop (n : Nat) {i j l : Nat} (hl : j + l ≤ 40) (I : MI) (J : MJ) (X : MI) (hX75 : ∀ b, b < l → X 75 b = I 74 (i + b)) (hX : ∀ a, a ≠ 75 → X a = I a) : ∀ q k, k ≤ l → l < q + k → lX10_copy_102 n q (nI j) (nI l) (nI k) (fun a b => if a = 74 ∧ j ≤ b ∧ b < j + k then I 74 (i + (b - j)) else X a b) J = some (nI l, (fun a b => if a = 74 ∧ j ≤ b ∧ b < j + l then I 74 (i + (b - j)) else X a b), J) := by
  intro q
  induction q with
  | zero => intro k h1 h2; omega
  | succ q ih =>
    intro k h1 h2
    show fX10_copy_102 n (lX10_copy_102 n q) (nI j) (nI l) (nI k) _ J = _
    unfold fX10_copy_102
    by_cases h : k = l
    · subst h
      rw [if_pos (Int32.le_refl _)]
    · rw [if_neg (nI_ge (by omega) (by omega)), if_pos (inb_nI (by omega) (by decide)), nI_add, if_pos (inb_nI (by omega) (by decide)), clampI (by omega), clampI (by omega), nI_1]
      simp only [lt]
      have e : upM (fun a b => if a = 74 ∧ j ≤ b ∧ b < j + k then I 74 (i + (b - j)) else X a b) 74 (j + k) (if (75 : Nat) = 74 ∧ j ≤ k ∧ k < j + k then I 74 (i + (k - j)) else X 75 k) = (fun a b => if a = 74 ∧ j ≤ b ∧ b < j + (k + 1) then I 74 (i + (b - j)) else X a b) := by
        have e1 : (if (75 : Nat) = 74 ∧ j ≤ k ∧ k < j + k then I 74 (i + (k - j)) else X 75 k) = I 74 (i + k) := by
          rw [if_neg (fun q => absurd q.1 (by decide))]
          exact hX75 k (by omega)
        rw [e1]
        funext a b
        rw [upM_get]
        by_cases ha : a = 74
        · by_cases hb : b = j + k
          · rw [if_pos ha, if_pos hb, if_pos ⟨ha, by omega, by omega⟩, hb, Nat.add_sub_cancel_left]
          · rw [if_pos ha, if_neg hb]
            by_cases hc : j ≤ b ∧ b < j + k
            · rw [if_pos ⟨ha, hc.1, hc.2⟩, if_pos ⟨ha, by omega, by omega⟩]
            · rw [if_neg (fun q => hc q.2), if_neg (fun q => hc ⟨q.2.1, by omega⟩)]
        · rw [if_neg ha, if_neg (fun q => ha q.1), if_neg (fun q => ha q.1)]
      rw [e]
      exact ih (k + 1) (by omega) (by omega)
theorem cp1_loop (n : Nat) (hn : 40 < n) {i j l : Nat} (hi : i + l ≤ 40) (hl : j + l ≤ 40) (I : MI) (J : MJ) : ∀ q k, k ≤ l → l < q + k → lX10_copy_71 n q (nI i) (nI j) (nI l) (nI k) (mv1 I i k) J = some (nI l, (fun a b => if a = 74 ∧ j ≤ b ∧ b < j + l then I 74 (i + (b - j)) else mv1 I i l a b), J) := by
  intro q
  induction q with
  | zero => intro k h1 h2; omega
  | succ q ih =>
    intro k h1 h2
    show fX10_copy_71 n (lX10_copy_71 n q) (nI i) (nI j) (nI l) (nI k) (mv1 I i k) J = _
    unfold fX10_copy_71
    by_cases h : k = l
    · subst h
      rw [if_pos (Int32.le_refl _)]
      have h0 := cp2_loop n (i := i) hl I J (mv1 I i k) (fun b hb => if_pos ⟨rfl, hb⟩) (fun a ha => by funext b; exact if_neg (fun q => ha q.1)) n 0 (Nat.zero_le _) (by omega)
      rw [show (fun a b => if a = 74 ∧ j ≤ b ∧ b < j + 0 then I 74 (i + (b - j)) else mv1 I i k a b) = mv1 I i k from by funext a b; exact if_neg (fun q => by omega)] at h0
      exact h0
    · rw [if_neg (nI_ge (by omega) (by omega)), nI_add, if_pos (inb_nI (by omega) (by decide)), if_pos (inb_nI (by omega) (by decide)), clampI (by omega), clampI (by omega), nI_1]
      simp only [lt]
      have e : upM (mv1 I i k) 75 k (mv1 I i k 74 (i + k)) = mv1 I i (k + 1) := by
        have e1 : mv1 I i k 74 (i + k) = I 74 (i + k) := if_neg (fun q => absurd q.1 (by decide))
        rw [e1]
        funext a b
        rw [upM_get]
        unfold mv1
        by_cases ha : a = 75
        · by_cases hb : b = k
          · rw [if_pos ha, if_pos hb, if_pos ⟨ha, by omega⟩, hb]
          · rw [if_pos ha, if_neg hb]
            by_cases hc : b < k
            · rw [if_pos ⟨ha, hc⟩, if_pos ⟨ha, by omega⟩]
            · rw [if_neg (fun q => hc q.2), if_neg (fun q => hb (by omega))]
        · rw [if_neg ha, if_neg (fun q => ha q.1), if_neg (fun q => ha q.1)]
      rw [e]
      exact ih (k + 1) (by omega) (by omega)
theorem B_copy_ok (n : Nat) (hn : 2400 < n) : B_copy Inv n := by
  intro x z l m I J hI
  rcases hI.2.1 with ⟨h1, h2⟩ | ⟨h1, s, hs, h2, h3, h4⟩
  · unfold fX9_copy
    rw [if_pos h1, ref_2]
    refine rr (j := 0) (f := fX10_copy n x z l) (by decide) hI ?_
    unfold fX10_copy
    simp only [up43 (show (44 : Nat) ≠ 43 by decide), h2]
    rw [if_neg (by decide), no_2]
    rfl
  have es : (nI s).toInt = s := nI_toInt (by omega)
  have hC : fX9_copy n x z l I J = (if 0 ≤ l then (if 0 ≤ x.toInt ∧ x.toInt + l.toInt ≤ s then (if 0 ≤ z.toInt ∧ z.toInt + l.toInt ≤ s then (if okcp x z l 37 37 = true then some (l, cpI I 42 42 x.toNatClampNeg z.toNatClampNeg l.toNatClampNeg, J) else none) else fX9_copy_52 n I J) else fX9_copy_52 n I J) else some (-4, upM I 43 2 (I 43 2 + 1), J)) := by
    unfold fX9_copy
    rw [if_neg (by rw [h1]; decide), hasStretch_eq, h2, es, ref_4]
    simp only [Option.bind_some]
    by_cases q1 : 0 ≤ l
    · rw [if_pos q1, if_pos q1]
      by_cases q2 : 0 ≤ x.toInt ∧ x.toInt + l.toInt ≤ s
      · rw [if_neg (fun q => b2_0.mp q q2), if_pos q2, hasStretch_eq, h2, es]
        simp only [Option.bind_some]
        by_cases q3 : 0 ≤ z.toInt ∧ z.toInt + l.toInt ≤ s
        · rw [if_neg (fun q => b2_0.mp q q3), if_pos q3]; rfl
        · rw [if_pos (b2_f q3), if_neg q3]
      · rw [if_pos (b2_f q2), if_neg q2]
    · rw [if_neg q1, if_neg q1]
  have hM : ∀ I' : MI, I' 44 48 = nI s → fX10_copy n x z l I' J = (if 0 ≤ l then (if 0 ≤ x.toInt ∧ x.toInt + l.toInt ≤ s then (if 0 ≤ z.toInt ∧ z.toInt + l.toInt ≤ s then lX10_copy_71 n n x z l 0 I' J else fX10_copy_61 n I' J) else fX10_copy_61 n I' J) else fX10_no n (-4) I' J) := by
    intro I' e
    unfold fX10_copy
    rw [e, if_pos (nI_pos' (by omega))]
    by_cases q1 : 0 ≤ l
    · rw [if_pos q1, if_pos q1]
      by_cases q2 : 0 ≤ x.toInt ∧ x.toInt + l.toInt ≤ s
      · rw [if_neg (fun q => by have := lt0.mp q; omega), if_pos q2]
        by_cases q3 : 0 ≤ z.toInt ∧ z.toInt + l.toInt ≤ s
        · have w1 : ¬ 0 < lg_cmp (x.toInt64 + l.toInt64) (nI s).toInt64 := fun q => by
            have := (lgc_pos _ _).mp q; rw [add64, Int32.toInt_toInt64, es] at this; omega
          have w2 : lg_cmp (z.toInt64 + l.toInt64) (nI s).toInt64 ≤ 0 := Int32.not_lt.mp (fun q => by
            have := (lgc_pos _ _).mp q; rw [add64, Int32.toInt_toInt64, es] at this; omega)
          rw [if_neg (fun q => by have := lt0.mp q; omega), if_neg w1, if_pos w2, if_pos q3]
        · rw [if_neg q3]
          by_cases q4 : z < 0
          · rw [if_pos q4]
          · have w1 : ¬ 0 < lg_cmp (x.toInt64 + l.toInt64) (nI s).toInt64 := fun q => by
              have := (lgc_pos _ _).mp q; rw [add64, Int32.toInt_toInt64, es] at this; omega
            have w2 : ¬ lg_cmp (z.toInt64 + l.toInt64) (nI s).toInt64 ≤ 0 := fun q => by
              have := mt (lgc_pos (z.toInt64 + l.toInt64) (nI s).toInt64).mpr (Int32.not_lt.mpr q)
              rw [add64, Int32.toInt_toInt64, es] at this
              have := mt lt0.mpr q4
              omega
            rw [if_neg q4, if_neg w1, if_neg w2]
      · rw [if_neg q2]
        by_cases q4 : x < 0
        · rw [if_pos q4]
        · rw [if_neg q4]
          by_cases q5 : z < 0
          · rw [if_pos q5]
          · have w1 : 0 < lg_cmp (x.toInt64 + l.toInt64) (nI s).toInt64 := (lgc_pos _ _).mpr (by
              rw [add64, Int32.toInt_toInt64, es]
              have := mt lt0.mpr q4
              omega)
            rw [if_neg q5, if_pos w1]
    · rw [if_neg q1, if_neg q1]
      exact bind_e3
  have e48 : ∀ j : Nat, ∀ v : Int32, upM I 43 j v 44 48 = nI s := fun j v => by rw [up43 (by decide)]; exact h3
  have bad6 : tot (fX9_copy_52 n I J) (fun r => tot (fX10_copy_61 n r.2.1 r.2.2) (fun q => r.1 = q.1 ∧ Inv m q.2.1 q.2.2)) := by
    unfold fX9_copy_52
    rw [ref_6]
    exact rr (j := 4) (f := fX10_copy_61 n) (by decide) hI rfl
  have c52 : fX9_copy_52 n I J = some (-6, upM I 43 4 (I 43 4 + 1), J) := rfl
  rw [hC]
  by_cases q1 : 0 ≤ l
  case neg =>
    rw [if_neg q1]
    refine rr (j := 2) (f := fX10_copy n x z l) (by decide) hI ?_
    rw [hM _ (e48 _ _), if_neg q1, no_4]
  rw [if_pos q1]
  by_cases q2 : 0 ≤ x.toInt ∧ x.toInt + l.toInt ≤ s
  case neg =>
    rw [if_neg q2, c52]
    refine rr (j := 4) (f := fX10_copy n x z l) (by decide) hI ?_
    rw [hM _ (e48 _ _), if_pos q1, if_neg q2]
    rfl
  rw [if_pos q2]
  by_cases q3 : 0 ≤ z.toInt ∧ z.toInt + l.toInt ≤ s
  case neg =>
    rw [if_neg q3, c52]
    refine rr (j := 4) (f := fX10_copy n x z l) (by decide) hI ?_
    rw [hM _ (e48 _ _), if_pos q1, if_pos q2, if_neg q3]
    rfl
  rw [if_pos q3]
  have l0 : 0 ≤ l.toInt := le0.mp q1
  obtain ⟨a, ha, rfl⟩ := nI_of (x := x) (by rw [lt0]; omega)
  obtain ⟨b, hb, rfl⟩ := nI_of (x := z) (by rw [lt0]; omega)
  obtain ⟨k, hk, rfl⟩ := nI_of (x := l) (by rw [lt0]; omega)
  rw [nI_toInt ha, nI_toInt hk] at q2
  rw [nI_toInt hb, nI_toInt hk] at q3
  have ok : okcp (nI a) (nI b) (nI k) 37 37 = true := by
    apply decide_eq_true
    rw [clampI ha, clampI hb, clampI hk]
    exact ⟨⟨nI_pos ha, nI_pos hb, nI_pos hk, by omega, by omega⟩, by decide, by decide⟩
  rw [if_pos ok, clampI ha, clampI hb, clampI hk]
  refine tot_some.mpr ?_
  dsimp only
  have c44 : ∀ c, c ≠ 42 → cpI I 42 42 a b k c = I c := fun c hc => if_neg hc
  rw [hM _ (by rw [c44 44 (by decide)]; exact h3), if_pos q1, nI_toInt ha, nI_toInt hb, nI_toInt hk, if_pos q2, if_pos q3]
  have hlp := cp1_loop n (by omega) (i := a) (j := b) (l := k) (by omega) (by omega) (cpI I 42 42 a b k) J n 0 (Nat.zero_le _) (by omega)
  rw [show mv1 (cpI I 42 42 a b k) a 0 = cpI I 42 42 a b k from by funext c d; exact if_neg (fun q => by omega)] at hlp
  rw [show lX10_copy_71 n n (nI a) (nI b) (nI k) (0 : Int32) = lX10_copy_71 n n (nI a) (nI b) (nI k) (nI 0) from rfl, hlp]
  refine tot_some.mpr ⟨rfl, ?_⟩
  dsimp only
  generalize hZ : (fun p d => if p = 74 ∧ b ≤ d ∧ d < b + k then cpI I 42 42 a b k 74 (a + (d - b)) else mv1 (cpI I 42 42 a b k) a k p d : MI) = Z
  have fin : ∀ c, c ≠ 42 → c ≠ 74 → c ≠ 75 → Z c = I c := by
    intro c p1 p2 p3
    funext d
    rw [← hZ]
    show (if c = 74 ∧ b ≤ d ∧ d < b + k then _ else mv1 (cpI I 42 42 a b k) a k c d) = _
    rw [if_neg (fun q => p2 q.1)]
    unfold mv1
    rw [if_neg (fun q => p3 q.1), c44 c p1]
  refine Inv_row (fun c p1 p2 _ _ p5 p6 _ => fin c p2 p5 p6) (fun j _ => by rw [fin 44 (by decide) (by decide) (by decide)]) (PR_fr (fun c hc => ?_) hI.1) (Or.inr ⟨?_, s, hs, ?_, ?_, fun d hd => ?_⟩) hI
  · simp only [List.mem_cons, List.not_mem_nil, or_false] at hc
    exact fin c (by omega) (by omega) (by omega)
  · rw [fin 41 (by decide) (by decide) (by decide)]; exact h1
  · rw [fin 41 (by decide) (by decide) (by decide)]; exact h2
  · rw [fin 44 (by decide) (by decide) (by decide)]; exact h3
  · have e42 : Z 42 d = if b ≤ d ∧ d < b + k then I 42 (a + (d - b)) else I 42 d := by
      rw [← hZ]
      show (if (42 : Nat) = 74 ∧ b ≤ d ∧ d < b + k then _ else mv1 (cpI I 42 42 a b k) a k 42 d) = _
      rw [if_neg (fun q => absurd q.1 (by decide))]
      unfold mv1
      rw [if_neg (fun q => absurd q.1 (by decide))]
      rfl
    have e74 : Z 74 d = if b ≤ d ∧ d < b + k then I 74 (a + (d - b)) else I 74 d := by
      rw [← hZ]
      show (if (74 : Nat) = 74 ∧ b ≤ d ∧ d < b + k then _ else mv1 (cpI I 42 42 a b k) a k 74 d) = _
      rw [c44 74 (by decide)]
      unfold mv1
      rw [if_neg (c := (74 : Nat) = 75 ∧ d < k) (fun q => absurd q.1 (by decide)), c44 74 (by decide)]
      by_cases hh : b ≤ d ∧ d < b + k
      · rw [if_pos ⟨rfl, hh⟩, if_pos hh]
      · rw [if_neg (fun q => hh q.2), if_neg hh]
    rw [e42, e74]
    by_cases hh : b ≤ d ∧ d < b + k
    · rw [if_pos hh, if_pos hh]
      exact h4 _ (by omega)
    · rw [if_neg hh, if_neg hh]
      exact h4 d hd
