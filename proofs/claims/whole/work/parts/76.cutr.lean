/-! the reference's cuts -/
theorem bt_n {s k : Nat} (hk : k < 32) : bt (nI s) k = s.testBit k := by
  show (BitVec.ofNat 32 s).getLsbD k = _
  rw [BitVec.getLsbD_ofNat]
  simp [hk]
theorem bl_n {s k : Nat} (hk : k < 64) : bl (lN s) k = s.testBit k := by
  show (BitVec.ofNat 64 s).getLsbD k = _
  rw [BitVec.getLsbD_ofNat]
  simp [hk]
theorem ushrI_1 (x : Int32) {k : Nat} (hk : k < 32) : ushrI x (nI k) &&& 1 = if bt x k = true then 1 else 0 := by
  unfold ushrI
  apply b_ext
  intro i hi
  rw [b_and, b_ushr k hk, bt_1 hi]
  cases hb : bt x k with
  | true =>
    rw [if_pos rfl, bt_1 hi]
    by_cases h : i = 0
    · simp [h, hb]
    · simp [h]
  | false =>
    rw [if_neg (by decide), b_0]
    by_cases h : i = 0
    · simp [h, hb]
    · simp [h]
theorem nI_or (a b : Nat) : nI a ||| nI b = nI (a ||| b) := by
  apply b_ext
  intro i hi
  rw [b_or, bt_n hi, bt_n hi, bt_n hi, Nat.testBit_or]
theorem nI_eq32 {a b : Nat} (ha : a < 4294967296) (hb : b < 4294967296) : nI a = nI b ↔ a = b := by
  constructor
  · intro h
    have h1 : (BitVec.ofNat 32 a).toNat = (BitVec.ofNat 32 b).toNat := congrArg (fun x : Int32 => x.toBitVec.toNat) h
    rw [BitVec.toNat_ofNat, BitVec.toNat_ofNat, Nat.mod_eq_of_lt ha, Nat.mod_eq_of_lt hb] at h1
    exact h1
  · intro h; rw [h]
theorem one_sh : ∀ a, a < 32 → (1 : Int32) <<< (nI a &&& 31) = nI (2 ^ a) := by decide +kernel
theorem bl_low : ∀ i, i < 64 → bl 4294967295 i = decide (i < 32) := by decide +kernel
theorem wide_n {s : Nat} (hs : s < 4294967296) : (nI s).toInt64 &&& 4294967295 = lN s := by
  apply wb_inj
  apply BitVec.eq_of_getLsbD_eq
  intro i hi
  show bl ((nI s).toInt64 &&& 4294967295) i = bl (lN s) i
  rw [bl_and, bl_low i hi, bl_n hi]
  by_cases h : i < 32
  · rw [bl_wide _ h, bt_n h]
    simp [h]
  · rw [ct_tb (a := 32) (show s < 2 ^ 32 from hs) (by omega)]
    simp [h]
theorem many_eq (n : Nat) (hn : 2400 < n) (s : Nat) (I : MI) (J : MJ) : fX10_many n (nI s) I J = some (nI (ct_pop 32 s), I, J) := by
  have h : ∀ q k, k ≤ 32 → 32 < q + k → lX10_many_4 n q (nI s) (nI (ct_pop k s)) (nI k) I J = some (nI (ct_pop 32 s), I, J) := by
    intro q
    induction q with
    | zero => intro k h1 h2; omega
    | succ q ih =>
      intro k h1 h2
      show fX10_many_4 n (lX10_many_4 n q) _ _ _ _ _ = _
      unfold fX10_many_4
      by_cases hk : k = 32
      · subst hk
        rw [if_pos (by decide)]
      · rw [if_neg (show ¬ (32 : Int32) ≤ nI k from nI_ge (b := 32) (by omega) (by decide)), ushrI_1 _ (by omega), bt_n (by omega), nI_1]
        have e : nI (ct_pop k s) + (if s.testBit k = true then 1 else 0) = nI (ct_pop (k + 1) s) := by
          show _ = nI (if s.testBit k = true then ct_pop k s + 1 else ct_pop k s)
          by_cases hb : s.testBit k = true
          · rw [if_pos hb, if_pos hb, nI_1]
          · rw [if_neg hb, if_neg hb]
            exact nI_add _ 0
        rw [e]
        exact ih (k + 1) (by omega) (by omega)
  exact h n 0 (by omega) (by omega)
theorem ct_md_le' {D : Nat → Nat} {B s : Nat} : ∀ k, (∀ i, i < k → s.testBit i = true → D i ≤ B) → ct_md D k s ≤ B := by
  intro k
  induction k with
  | zero => intro _; exact Nat.zero_le _
  | succ k ih =>
    intro h
    have h1 := ih (fun i hi => h i (by omega))
    show (if s.testBit k = true then max (ct_md D k s) (D k) else ct_md D k s) ≤ B
    by_cases hb : s.testBit k = true
    · have h2 := h k (by omega) hb
      rw [if_pos hb]; omega
    · rw [if_neg hb]; exact h1
theorem depthOf_eq (n : Nat) (hn : 2400 < n) {D : Nat → Nat} {s : Nat} (I : MI) (J : MJ) (hs : ∀ i, i < 32 → s.testBit i = true → I 54 i = nI (D i) ∧ D i ≤ 31) : fX10_depthOf n (nI s) I J = some (nI (1 + ct_md D 32 s), I, J) := by
  have h : ∀ q k, k ≤ 32 → 32 < q + k → lX10_depthOf_4 n q (nI s) (nI (ct_md D k s)) (nI k) I J = some (nI (1 + ct_md D 32 s), I, J) := by
    intro q
    induction q with
    | zero => intro k h1 h2; omega
    | succ q ih =>
      intro k h1 h2
      show fX10_depthOf_4 n (lX10_depthOf_4 n q) _ _ _ _ _ = _
      unfold fX10_depthOf_4 fX10_depthOf_36
      by_cases hk : k = 32
      · subst hk
        rw [if_pos (by decide), show (1 : Int32) = nI 1 from rfl, nI_add]
      · have hm : ct_md D k s ≤ 31 := ct_md_le' k (fun i hi hb => (hs i (by omega) hb).2)
        rw [if_neg (show ¬ (32 : Int32) ≤ nI k from nI_ge (b := 32) (by omega) (by decide)), ushrI_1 _ (by omega), bt_n (by omega), nI_1]
        have ih' := ih (k + 1) (by omega) (by omega)
        have e : ct_md D (k + 1) s = (if s.testBit k = true then max (ct_md D k s) (D k) else ct_md D k s) := rfl
        by_cases hb : s.testBit k = true
        · obtain ⟨s1, s2⟩ := hs k (by omega) hb
          rw [if_pos hb, if_pos rfl, if_pos (inb_nI (by omega) (by decide)), clampI (by omega), s1]
          rw [e, if_pos hb] at ih'
          by_cases hd : D k ≤ ct_md D k s
          · rw [if_pos (nI_le hd (by omega))]
            rw [Nat.max_eq_left hd] at ih'
            exact ih'
          · rw [if_neg (nI_ge (by omega) (by omega)), if_pos (inb_nI (by omega) (by decide))]
            rw [Nat.max_eq_right (by omega)] at ih'
            exact ih'
        · rw [if_neg hb, if_neg (by decide)]
          rw [e, if_neg hb] at ih'
          exact ih'
  exact h n 0 (by omega) (by omega)
theorem isAhead_eq (n : Nat) (hn : 2400 < n) {D : Nat → Nat} {s t : Nat} (I : MI) (J : MJ) (hs' : s < 4294967296) (ht' : t < 4294967296) (hs : ∀ i, i < 32 → s.testBit i = true → I 54 i = nI (D i) ∧ D i ≤ 31) (ht : ∀ i, i < 32 → t.testBit i = true → I 54 i = nI (D i) ∧ D i ≤ 31) : fX10_isAhead n (nI s) (nI t) I J = some (b2 (ct_rk 32 D s < ct_rk 32 D t), I, J) := by
  have ms : ct_md D 32 s ≤ 31 := ct_md_le' 32 (fun i hi hb => (hs i hi hb).2)
  have mt : ct_md D 32 t ≤ 31 := ct_md_le' 32 (fun i hi hb => (ht i hi hb).2)
  have ps := ct_pop_le s 32
  have pt := ct_pop_le t 32
  unfold fX10_isAhead
  rw [depthOf_eq n hn I J hs]
  simp only [Option.bind_some, lt]
  rw [depthOf_eq n hn I J ht]
  simp only [Option.bind_some]
  have key : b2 (ct_rk 32 D s < ct_rk 32 D t) = b2 (if ct_md D 32 s = ct_md D 32 t then (if ct_pop 32 s = ct_pop 32 t then s < t else ct_pop 32 s < ct_pop 32 t) else ct_md D 32 s < ct_md D 32 t) := by
    unfold b2
    by_cases q : ct_rk 32 D s < ct_rk 32 D t
    · rw [if_pos q, if_pos ((ct_rk_lt hs' ht').mp q)]
    · rw [if_neg q, if_neg (fun z => q ((ct_rk_lt hs' ht').mpr z))]
  rw [key]
  by_cases hd : ct_md D 32 s = ct_md D 32 t
  · rw [if_pos (by rw [hd]), many_eq n hn]
    simp only [Option.bind_some]
    rw [many_eq n hn]
    simp only [Option.bind_some, if_pos hd]
    by_cases hp : ct_pop 32 s = ct_pop 32 t
    · rw [if_pos (by rw [hp]), wide_n hs', wide_n ht']
      simp only [if_pos hp]
      by_cases hl : s < t
      · rw [if_neg (fun q => by have := (lg_cmp_ge _ _).mp q; have := (lN_lt (by omega) (by omega)).mpr hl; exact absurd this (Int64.not_lt.mpr ‹_›)), b2_t hl]
      · rw [if_pos ((lg_cmp_ge _ _).mpr (Int64.not_lt.mp (fun q => hl ((lN_lt (by omega) (by omega)).mp q)))), b2_f hl]
    · rw [if_neg (fun q => hp ((nI_eq (by omega) (by omega)).mp q)), many_eq n hn]
      simp only [Option.bind_some]
      rw [many_eq n hn]
      simp only [Option.bind_some, if_neg hp]
      by_cases hl : ct_pop 32 s < ct_pop 32 t
      · rw [if_neg (nI_ge hl (by omega)), b2_t hl]
      · rw [if_pos (nI_le (by omega) (by omega)), b2_f hl]
  · rw [if_neg (fun q => hd (by have := (nI_eq (by omega) (by omega)).mp q; omega))]
    simp only [if_neg hd]
    by_cases hl : ct_md D 32 s < ct_md D 32 t
    · rw [if_neg (nI_ge (by omega) (by omega)), b2_t hl]
    · rw [if_pos (nI_le (by omega) (by omega)), b2_f hl]
def shI (I : MI) (g k l : Nat) : MI := fun a b => if a = 52 ∧ 40 * g + k < b ∧ b ≤ 40 * g + l then I 52 (b - 1) else I a b
theorem shI_step {I : MI} {g k l : Nat} (h : k < l) : upM (shI I g (k + 1) l) 52 (40 * g + (k + 1)) (shI I g (k + 1) l 52 (40 * g + k)) = shI I g k l := by
  funext a b
  rw [upM_get]
  unfold shI
  rw [if_neg (show ¬ ((52 : Nat) = 52 ∧ 40 * g + (k + 1) < 40 * g + k ∧ 40 * g + k ≤ 40 * g + l) from fun q => by omega)]
  by_cases ha : a = 52
  · by_cases hb : b = 40 * g + (k + 1)
    · rw [if_pos ha, if_pos hb, if_pos ⟨ha, by omega, by omega⟩, hb]
      rfl
    · rw [if_pos ha, if_neg hb]
      by_cases hc : 40 * g + (k + 1) < b ∧ b ≤ 40 * g + l
      · rw [if_pos ⟨ha, hc⟩, if_pos ⟨ha, by omega, hc.2⟩]
      · rw [if_neg (fun q => hc q.2), if_neg (fun q => hc ⟨by omega, q.2.2⟩)]
  · rw [if_neg ha, if_neg (fun q => ha q.1), if_neg (fun q => ha q.1)]
theorem ent_sh (n : Nat) {g a l : Nat} (hg : g < 32) (hl : l < 40) (X : Int32) (I : MI) (J : MJ) : ∀ q k, a ≤ k → k ≤ l → k < q + a → lX10_enters_105 n q X (nI (40 * g)) (nI a) (nI k) (shI I g k l) J = some (upM (shI I g a l) 52 (40 * g + a) X, J) := by
  intro q
  induction q with
  | zero => intro k h1 h2 h3; omega
  | succ q ih =>
    intro k h1 h2 h3
    show fX10_enters_105 n (lX10_enters_105 n q) _ _ _ _ _ _ = _
    unfold fX10_enters_105
    by_cases hk : k = a
    · subst hk
      rw [if_pos (Int32.le_refl _), nI_add, if_pos (inb_nI (by omega) (by decide)), clampI (by omega)]
      rfl
    · obtain ⟨k, rfl⟩ : ∃ z, k = z + 1 := ⟨k - 1, by omega⟩
      have e1 : nI (40 * g) + nI (k + 1) - 1 = nI (40 * g + k) := by
        rw [nI_add]
        exact pk_sub (a := 40 * g + (k + 1)) (b := 1) (by omega)
      rw [if_neg (nI_ge (by omega) (by omega)), e1, nI_add, if_pos (inb_nI (by omega) (by decide)), if_pos (inb_nI (by omega) (by decide)), clampI (by omega), clampI (by omega), pk_m1, shI_step (by omega)]
      exact ih k (by omega) (by omega) (by omega)
/-- the row of gate g in the reference: the cuts p, all else as at first -/
def rowI (I0 : MI) (g : Nat) (p : Cuts) (I : MI) : Prop := I 53 g = nI p.1 ∧ (∀ i, i < p.1 → I 52 (40 * g + i) = nI (p.2 i)) ∧ ∀ a b, (a ≠ 52 ∨ b < 40 * g ∨ 40 * g + 40 ≤ b) → (a ≠ 53 ∨ b ≠ g) → I a b = I0 a b
theorem enters_ok (n : Nat) (hn : 2400 < n) {g s : Nat} {D : Nat → Nat} {p : Cuts} (hg : g < 32) (hp : ct_ok (ct_rk g D) g p) (hs : s < 2 ^ g) (I : MI) (J : MJ) (h54 : ∀ i, i < g → I 54 i = nI (D i) ∧ D i ≤ 31) (h53 : I 53 g = nI p.1) (h52 : ∀ i, i < p.1 → I 52 (40 * g + i) = nI (p.2 i)) : ∃ I', fX10_enters n (nI g) (nI s) I J = some (I', J) ∧ rowI I g (ct_ent (ct_rk g D) s p) I' := by
  obtain ⟨p1, p2, p3⟩ := hp
  have hs32 := ct_lt32 (show g ≤ 32 by omega) hs
  have hle := ct_at_le (ct_rk g D) s p
  have hbit : ∀ z, z < 2 ^ g → ∀ i, i < 32 → z.testBit i = true → I 54 i = nI (D i) ∧ D i ≤ 31 := by
    intro z hz i hi hb
    by_cases hig : i < g
    · exact h54 i hig
    · rw [ct_tb hz (by omega)] at hb
      cases hb
  have rk32 : ∀ z, z < 2 ^ g → ct_rk 32 D z = ct_rk g D z := fun z hz => rk_ext hz (by omega)
  have scan : ∀ q a, a ≤ ct_at (ct_rk g D) s p → ct_at (ct_rk g D) s p < q + a → lX10_enters_8 n q (nI g) (nI s) (nI (40 * g)) (nI a) I J = fX10_enters_42 n (nI g) (nI s) (nI (40 * g)) (nI (ct_at (ct_rk g D) s p)) I J := by
    intro q
    induction q with
    | zero => intro a h1 h2; omega
    | succ q ih =>
      intro a h1 h2
      show fX10_enters_8 n (lX10_enters_8 n q) _ _ _ _ _ _ = _
      unfold fX10_enters_8
      rw [if_pos (inb_nI (by omega) (by decide)), clampI (by omega), h53]
      by_cases hc : a = p.1
      · rw [if_pos (nI_le (by omega) (by omega)), show ct_at (ct_rk g D) s p = a by omega]
      · have ha : a < p.1 := by omega
        rw [if_neg (nI_ge ha (by omega)), nI_add, if_pos (inb_nI (by omega) (by decide)), clampI (by omega), h52 a ha, isAhead_eq n hn I J (ct_lt32 (by omega) (p3 a ha).1) hs32 (hbit _ (p3 a ha).1) (hbit _ hs), rk32 _ (p3 a ha).1, rk32 _ hs, nI_1]
        simp only [Option.bind_some]
        by_cases hat : a = ct_at (ct_rk g D) s p
        · have := ct_at_at (r := ct_rk g D) (s := s) (p := p) (by omega)
          rw [← hat] at this
          rw [if_pos (b2_f (by omega)), ← hat]
        · have := ct_at_lt (r := ct_rk g D) (s := s) (p := p) (i := a) (by omega)
          rw [if_neg (fun q => b2_0.mp q this)]
          exact ih (a + 1) (by omega) (by omega)
  have h0 : fX10_enters n (nI g) (nI s) I J = fX10_enters_42 n (nI g) (nI s) (nI (40 * g)) (nI (ct_at (ct_rk g D) s p)) I J := by
    unfold fX10_enters
    rw [show (40 : Int32) = nI 40 from rfl, pk_mul]
    exact scan n 0 (Nat.zero_le _) (by omega)
  have hself : rowI I g p I := ⟨h53, h52, fun _ _ _ _ => rfl⟩
  rw [h0]
  unfold fX10_enters_42 ct_ent
  rw [if_pos (inb_nI (by omega) (by decide)), clampI (by omega), h53]
  by_cases hk : ct_at (ct_rk g D) s p < p.1 ∧ p.2 (ct_at (ct_rk g D) s p) = s
  · rw [if_pos (Or.inl hk), if_neg (nI_ge hk.1 (by omega)), nI_add, if_pos (inb_nI (by omega) (by decide)), clampI (by omega), h52 _ hk.1, hk.2, if_pos rfl]
    exact ⟨I, rfl, hself⟩
  have h66 : (if nI p.1 ≤ nI (ct_at (ct_rk g D) s p) then fX10_enters_66 n (nI g) (nI s) (nI (40 * g)) (nI (ct_at (ct_rk g D) s p)) I J else if inb (nI (40 * g) + nI (ct_at (ct_rk g D) s p)) 1280 = true then if I 52 (nI (40 * g) + nI (ct_at (ct_rk g D) s p)).toNatClampNeg = nI s then some (I, J) else fX10_enters_66 n (nI g) (nI s) (nI (40 * g)) (nI (ct_at (ct_rk g D) s p)) I J else none) = fX10_enters_66 n (nI g) (nI s) (nI (40 * g)) (nI (ct_at (ct_rk g D) s p)) I J := by
    by_cases hc : p.1 ≤ ct_at (ct_rk g D) s p
    · rw [if_pos (nI_le hc (by omega))]
    · rw [if_neg (nI_ge (by omega) (by omega)), nI_add, if_pos (inb_nI (by omega) (by decide)), clampI (by omega), h52 _ (by omega), if_neg (fun q => hk ⟨by omega, (nI_eq32 (ct_lt32 (by omega) (p3 _ (by omega)).1) hs32).mp q⟩)]
  rw [h66]
  unfold fX10_enters_66
  by_cases h40 : ct_at (ct_rk g D) s p = 40
  · rw [if_pos (by rw [h40]; rfl), if_pos (Or.inr (by omega))]
    exact ⟨I, rfl, hself⟩
  rw [if_neg (show ¬ nI (ct_at (ct_rk g D) s p) = (40 : Int32) from fun q => h40 ((nI_eq (b := 40) (by omega) (by decide)).mp q)), if_neg (fun q => q.elim hk (fun z => by omega)), if_pos (inb_nI (by omega) (by decide)), clampI (by omega), h53]
  have h95 : ∀ I1 : MI, I1 53 g = nI (min p.1 39 + 1) → (∀ a b, a ≠ 53 → I1 a b = I a b) → (∀ b, b ≠ g → I1 53 b = I 53 b) → ∃ I', fX10_enters_95 n (nI g) (nI s) (nI (40 * g)) (nI (ct_at (ct_rk g D) s p)) I1 J = some (I', J) ∧ rowI I g (ct_put (ct_at (ct_rk g D) s p) s p) I' := by
    intro I1 q1 q2 q3
    have e1 : nI (min p.1 39 + 1) - 1 = nI (min p.1 39) := pk_sub (a := min p.1 39 + 1) (b := 1) (by omega)
    have hs0 : shI I1 g (min p.1 39) (min p.1 39) = I1 := by
      funext a b
      exact if_neg (fun q => by omega)
    have hsh := ent_sh n (a := ct_at (ct_rk g D) s p) (l := min p.1 39) hg (by omega) (nI s) I1 J n (min p.1 39) (by omega) (Nat.le_refl _) (by omega)
    rw [hs0] at hsh
    unfold fX10_enters_95
    rw [if_pos (inb_nI (by omega) (by decide)), clampI (by omega), q1, e1]
    refine ⟨_, hsh, ?_, fun i hi => ?_, fun a b h1 h2 => ?_⟩
    · rw [upM_ne 53 (by decide)]
      unfold shI
      rw [if_neg (fun q => absurd q.1 (by decide))]
      exact q1
    · have hi' : i < min p.1 39 + 1 := hi
      show upM _ 52 (40 * g + ct_at (ct_rk g D) s p) (nI s) 52 (40 * g + i) = nI (if i < ct_at (ct_rk g D) s p then p.2 i else if i = ct_at (ct_rk g D) s p then s else p.2 (i - 1))
      rw [upM_get, if_pos rfl]
      by_cases i1 : i < ct_at (ct_rk g D) s p
      · rw [if_neg (by omega), if_pos i1]
        unfold shI
        rw [if_neg (fun q => by omega), q2 52 _ (by decide)]
        exact h52 i (by omega)
      · by_cases i2 : i = ct_at (ct_rk g D) s p
        · rw [if_pos (by omega), if_neg i1, if_pos i2]
        · rw [if_neg (by omega), if_neg i1, if_neg i2]
          unfold shI
          rw [if_pos ⟨rfl, by omega, by omega⟩, show 40 * g + i - 1 = 40 * g + (i - 1) by omega, q2 52 _ (by decide)]
          exact h52 (i - 1) (by omega)
    · have e : upM (shI I1 g (ct_at (ct_rk g D) s p) (min p.1 39)) 52 (40 * g + ct_at (ct_rk g D) s p) (nI s) a b = I1 a b := by
        rw [upM_get]
        by_cases ha : a = 52
        · rw [if_pos ha, if_neg (by omega)]
          unfold shI
          rw [if_neg (fun q => by omega)]
        · rw [if_neg ha]
          unfold shI
          rw [if_neg (fun q => ha q.1)]
      rw [e]
      by_cases h53' : a = 53
      · subst h53'
        exact q3 b (by omega)
      · exact q2 a b h53'
  by_cases hfull : p.1 = 40
  · rw [if_pos (show (40 : Int32) ≤ nI p.1 from nI_le (a := 40) (by omega) (by omega))]
    exact h95 I (by rw [h53, hfull]; rfl) (fun _ _ _ => rfl) (fun _ _ => rfl)
  · rw [if_neg (show ¬ (40 : Int32) ≤ nI p.1 from nI_ge (b := 40) (by omega) (by decide)), if_pos (inb_nI (by omega) (by decide)), if_pos (inb_nI (by omega) (by decide)), nI_1]
    refine h95 (upM I 53 g (nI (p.1 + 1))) ?_ (fun a b h => ?_) (fun b h => ?_)
    · rw [upM_get, if_pos rfl, if_pos rfl, Nat.min_eq_left (by omega)]
    · rw [upM_get, if_neg h]
    · rw [upM_get, if_pos rfl, if_neg h]
theorem partOf_eq (n : Nat) {K : Nat → Cuts} {D : Nat → Nat} {I : MI} {J : MJ} {a i : Nat} (ha : a < 32) (hk : krOk K D I a) (hw : (K a).1 ≤ 40) (hi : i ≤ (K a).1) : fX10_partOf n (nI a) (nI i) I J = some (nI (ct_ch (K a) a i), I, J) := by
  obtain ⟨k1, k2, k3⟩ := hk
  unfold fX10_partOf ct_ch
  rw [if_pos (inb_nI (by omega) (by decide)), clampI (by omega), k1]
  by_cases hc : i < (K a).1
  · have e40 : (40 : Int32) * nI a + nI i = nI (40 * a + i) := by rw [show (40 : Int32) = nI 40 from rfl, pk_mul, nI_add]
    rw [if_neg (nI_ge hc (by omega)), e40, if_pos (inb_nI (by omega) (by decide)), clampI (by omega), k3 i hc, if_pos hc]
  · rw [if_pos (nI_le (by omega) (by omega)), if_neg hc, one_sh a ha]
