/-! the reference's cuts -/
theorem bt_n {s k : Nat} (hk : k < 32) : bt (nI s) k = s.testBit k := by
  show (BitVec.ofNat 32 s).getLsbD k = _
  rw [BitVec.getLsbD_ofNat]
  simp [hk]
theorem bl_n {s k : Nat} (hk : k < 64) : bl (lN s) k = s.testBit k := by
  show (BitVec.ofNat 64 s).getLsbD k = _
  rw [BitVec.getLsbD_ofNat]
  simp [hk]
theorem ushrI_1 (x : Int32) {k : Nat} (hk : k < 32) : ushrI x (nI k) &&& 1 = if bt x k = true then 1 else 0 := by
  unfold ushrI
  apply b_ext
  intro i hi
  rw [b_and, b_ushr k hk, bt_1 hi]
  cases hb : bt x k with
  | true =>
    rw [if_pos rfl, bt_1 hi]
    by_cases h : i = 0
    · simp [h, hb]
    · simp [h]
  | false =>
    rw [if_neg (by decide), b_0]
    by_cases h : i = 0
    · simp [h, hb]
    · simp [h]
theorem nI_or (a b : Nat) : nI a ||| nI b = nI (a ||| b) := by
  apply b_ext
  intro i hi
  rw [b_or, bt_n hi, bt_n hi, bt_n hi, Nat.testBit_or]
theorem nI_eq32 {a b : Nat} (ha : a < 4294967296) (hb : b < 4294967296) : nI a = nI b ↔ a = b := by
  constructor
  · intro h
    have h1 : (BitVec.ofNat 32 a).toNat = (BitVec.ofNat 32 b).toNat := congrArg (fun x : Int32 => x.toBitVec.toNat) h
    rw [BitVec.toNat_ofNat, BitVec.toNat_ofNat, Nat.mod_eq_of_lt ha, Nat.mod_eq_of_lt hb] at h1
    exact h1
  · intro h; rw [h]
theorem one_sh : ∀ a, a < 32 → (1 : Int32) <<< (nI a &&& 31) = nI (2 ^ a) := by decide +kernel
theorem bl_low : ∀ i, i < 64 → bl 4294967295 i = decide (i < 32) := by decide +kernel
theorem wide_n {s : Nat} (hs : s < 4294967296) : (nI s).toInt64 &&& 4294967295 = lN s := by
  apply wb_inj
  apply BitVec.eq_of_getLsbD_eq
  intro i hi
  show bl ((nI s).toInt64 &&& 4294967295) i = bl (lN s) i
  rw [bl_and, bl_low i hi, bl_n hi]
  by_cases h : i < 32
  · rw [bl_wide _ h, bt_n h]
    simp [h]
  · rw [ct_tb (a := 32) (show s < 2 ^ 32 from hs) (by omega)]
    simp [h]
theorem many_loop (n : Nat) (s N : Nat) (hN : N = 32) (I : MI) (J : MJ) : ∀ q k, k ≤ N → N < q + k → lX10_many_4 n q (nI s) (nI (ct_pop k s)) (nI k) I J = some (nI (ct_pop N s), I, J) := by
  intro q
  induction q with
  | zero => intro k h1 h2; omega
  | succ q ih =>
    intro k h1 h2
    show fX10_many_4 n (lX10_many_4 n q) _ _ _ _ _ = _
    unfold fX10_many_4
    by_cases hk : k = N
    · rw [if_pos (show (32 : Int32) ≤ nI k from nI_le (a := 32) (by omega) (by omega)), hk]
    · rw [if_neg (show ¬ (32 : Int32) ≤ nI k from nI_ge (b := 32) (by omega) (by decide)), ushrI_1 _ (by omega), bt_n (by omega), nI_1]
      have e : nI (ct_pop k s) + (if s.testBit k = true then 1 else 0) = nI (ct_pop (k + 1) s) := by
        show _ = nI (if s.testBit k = true then ct_pop k s + 1 else ct_pop k s)
        by_cases hb : s.testBit k = true
        · rw [if_pos hb, if_pos hb, nI_1]
        · rw [if_neg hb, if_neg hb]
          exact nI_add _ 0
      simp only [lt]
      rw [e]
      exact ih (k + 1) (by omega) (by omega)
theorem many_eq (n : Nat) (hn : 2400 < n) (s : Nat) (I : MI) (J : MJ) : fX10_many n (nI s) I J = some (nI (ct_pop 32 s), I, J) := many_loop n s 32 rfl I J n 0 (Nat.zero_le _) (by omega)
theorem ct_md_le' {D : Nat → Nat} {B s : Nat} : ∀ k, (∀ i, i < k → s.testBit i = true → D i ≤ B) → ct_md D k s ≤ B := by
  intro k
  induction k with
  | zero => intro _; exact Nat.zero_le _
  | succ k ih =>
    intro h
    have h1 := ih (fun i hi => h i (by omega))
    show (if s.testBit k = true then max (ct_md D k s) (D k) else ct_md D k s) ≤ B
    by_cases hb : s.testBit k = true
    · have h2 := h k (by omega) hb
      rw [if_pos hb]; omega
    · rw [if_neg hb]; exact h1
theorem depth_loop (n : Nat) {D : Nat → Nat} {s N : Nat} (hN : N = 32) (I : MI) (J : MJ) (hs : ∀ i, i < N → s.testBit i = true → I 54 i = nI (D i) ∧ D i ≤ 31) : ∀ q k, k ≤ N → N < q + k → lX10_depthOf_4 n q (nI s) (nI (ct_md D k s)) (nI k) I J = some (nI (1 + ct_md D N s), I, J) := by
  intro q
  induction q with
  | zero => intro k h1 h2; omega
  | succ q ih =>
    intro k h1 h2
    show fX10_depthOf_4 n (lX10_depthOf_4 n q) _ _ _ _ _ = _
    unfold fX10_depthOf_4 fX10_depthOf_36
    by_cases hk : k = N
    · rw [if_pos (show (32 : Int32) ≤ nI k from nI_le (a := 32) (by omega) (by omega)), hk, show (1 : Int32) = nI 1 from rfl, nI_add]
    · have hm : ct_md D k s ≤ 31 := ct_md_le' k (fun i hi hb => (hs i (by omega) hb).2)
      rw [if_neg (show ¬ (32 : Int32) ≤ nI k from nI_ge (b := 32) (by omega) (by decide)), ushrI_1 _ (by omega), bt_n (by omega), nI_1]
      have ih' := ih (k + 1) (by omega) (by omega)
      have e : ct_md D (k + 1) s = (if s.testBit k = true then max (ct_md D k s) (D k) else ct_md D k s) := rfl
      by_cases hb : s.testBit k = true
      · obtain ⟨s1, s2⟩ := hs k (by omega) hb
        rw [if_pos hb, if_pos rfl, if_pos (inb_nI (by omega) (by decide)), clampI (by omega), s1]
        rw [e, if_pos hb] at ih'
        by_cases hd : D k ≤ ct_md D k s
        · rw [if_pos (nI_le hd (by omega))]
          rw [Nat.max_eq_left hd] at ih'
          exact ih'
        · rw [if_neg (nI_ge (by omega) (by omega)), if_pos (inb_nI (by omega) (by decide))]
          rw [Nat.max_eq_right (by omega)] at ih'
          exact ih'
      · rw [if_neg hb, if_neg (by decide)]
        rw [e, if_neg hb] at ih'
        exact ih'
theorem depthOf_eq (n : Nat) (hn : 2400 < n) {D : Nat → Nat} {s : Nat} (I : MI) (J : MJ) (hs : ∀ i, i < 32 → s.testBit i = true → I 54 i = nI (D i) ∧ D i ≤ 31) : fX10_depthOf n (nI s) I J = some (nI (1 + ct_md D 32 s), I, J) := depth_loop n rfl I J hs n 0 (Nat.zero_le _) (by omega)
theorem b2_iff {p q : Prop} [Decidable p] [Decidable q] (h : p ↔ q) : b2 p = b2 q := by
  unfold b2
  by_cases hp : p
  · rw [if_pos hp, if_pos (h.mp hp)]
  · rw [if_neg hp, if_neg (fun z => hp (h.mpr z))]
theorem rk_lt3 {g : Nat} {D : Nat → Nat} {s t : Nat} (hs : s < 4294967296) (ht : t < 4294967296) : ct_rk g D s < ct_rk g D t ↔ (ct_md D g s < ct_md D g t ∨ (ct_md D g s = ct_md D g t ∧ (ct_pop 32 s < ct_pop 32 t ∨ (ct_pop 32 s = ct_pop 32 t ∧ s < t)))) := by
  have h1 := ct_pop_le s 32
  have h2 := ct_pop_le t 32
  unfold ct_rk
  generalize ct_pop 32 s = a at *
  generalize ct_pop 32 t = b at *
  generalize ct_md D g s = x
  generalize ct_md D g t = y
  omega
theorem ahead_raw (n : Nat) {x y : Int32} {ds dt ps pt S T : Nat} {I : MI} {J : MJ} (h1 : fX10_depthOf n x I J = some (nI (1 + ds), I, J)) (h2 : fX10_depthOf n y I J = some (nI (1 + dt), I, J)) (h3 : fX10_many n x I J = some (nI ps, I, J)) (h4 : fX10_many n y I J = some (nI pt, I, J)) (h5 : x.toInt64 &&& 4294967295 = lN S) (h6 : y.toInt64 &&& 4294967295 = lN T) (b1 : ds ≤ 32) (b2' : dt ≤ 32) (b3 : ps ≤ 32) (b4 : pt ≤ 32) (b5 : S < 4294967296) (b6 : T < 4294967296) : fX10_isAhead n x y I J = some (b2 (ds < dt ∨ (ds = dt ∧ (ps < pt ∨ (ps = pt ∧ S < T)))), I, J) := by
  unfold fX10_isAhead
  rw [h1]
  simp only [Option.bind_some, lt]
  rw [h2]
  simp only [Option.bind_some]
  by_cases hd : ds = dt
  · rw [if_pos (by rw [hd]), h3]
    simp only [Option.bind_some]
    rw [h4]
    simp only [Option.bind_some]
    by_cases hp : ps = pt
    · rw [if_pos (by rw [hp]), h5, h6]
      by_cases hl : S < T
      · rw [if_neg (fun q => absurd ((lM_lt (by omega) (by omega)).mpr hl) (Int64.not_lt.mpr ((lg_cmp_ge _ _).mp q))), b2_t (Or.inr ⟨hd, Or.inr ⟨hp, hl⟩⟩)]
      · rw [if_pos ((lg_cmp_ge _ _).mpr (Int64.not_lt.mp (fun q => hl ((lM_lt (by omega) (by omega)).mp q)))), b2_f (by omega)]
    · rw [if_neg (fun q => hp ((nI_eq (by omega) (by omega)).mp q)), h3]
      simp only [Option.bind_some]
      rw [h4]
      simp only [Option.bind_some]
      by_cases hl : ps < pt
      · rw [if_neg (nI_ge hl (by omega)), b2_t (Or.inr ⟨hd, Or.inl hl⟩)]
      · rw [if_pos (nI_le (by omega) (by omega)), b2_f (by omega)]
  · rw [if_neg (fun q => hd (by have := (nI_eq (by omega) (by omega)).mp q; omega))]
    by_cases hl : ds < dt
    · rw [if_neg (nI_ge (by omega) (by omega)), b2_t (Or.inl hl)]
    · rw [if_pos (nI_le (by omega) (by omega)), b2_f (by omega)]
theorem isAhead_eq (n : Nat) (hn : 2400 < n) {D : Nat → Nat} {s t : Nat} (I : MI) (J : MJ) (hs' : s < 4294967296) (ht' : t < 4294967296) (hs : ∀ i, i < 32 → s.testBit i = true → I 54 i = nI (D i) ∧ D i ≤ 31) (ht : ∀ i, i < 32 → t.testBit i = true → I 54 i = nI (D i) ∧ D i ≤ 31) : fX10_isAhead n (nI s) (nI t) I J = some (b2 (ct_rk 32 D s < ct_rk 32 D t), I, J) :=
  (ahead_raw n (depthOf_eq n hn I J hs) (depthOf_eq n hn I J ht) (many_eq n hn s I J) (many_eq n hn t I J) (wide_n hs') (wide_n ht') (Nat.le_trans (ct_md_le' 32 (fun i hi hb => (hs i hi hb).2)) (by decide)) (Nat.le_trans (ct_md_le' 32 (fun i hi hb => (ht i hi hb).2)) (by decide)) (ct_pop_le s 32) (ct_pop_le t 32) hs' ht').trans (congrArg (fun z => some (z, I, J)) (b2_iff (rk_lt3 hs' ht').symm))
