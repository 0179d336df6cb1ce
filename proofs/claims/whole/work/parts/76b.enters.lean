def shI (I : MI) (g k l : Nat) : MI := fun a b => if a = 52 ∧ 40 * g + k < b ∧ b ≤ 40 * g + l then I 52 (b - 1) else I a b
theorem shI_step {I : MI} {g k l : Nat} (h : k < l) : upM (shI I g (k + 1) l) 52 (40 * g + (k + 1)) (shI I g (k + 1) l 52 (40 * g + k)) = shI I g k l := by
  funext a b
  rw [upM_get]
  unfold shI
  rw [if_neg (show ¬ ((52 : Nat) = 52 ∧ 40 * g + (k + 1) < 40 * g + k ∧ 40 * g + k ≤ 40 * g + l) from fun q => by omega)]
  by_cases ha : a = 52
  · by_cases hb : b = 40 * g + (k + 1)
    · rw [if_pos ha, if_pos hb, if_pos ⟨ha, by omega, by omega⟩, hb]
      rfl
    · rw [if_pos ha, if_neg hb]
      by_cases hc : 40 * g + (k + 1) < b ∧ b ≤ 40 * g + l
      · rw [if_pos ⟨ha, hc⟩, if_pos ⟨ha, by omega, hc.2⟩]
      · rw [if_neg (fun q => hc q.2), if_neg (fun q => hc ⟨by omega, q.2.2⟩)]
  · rw [if_neg ha, if_neg (fun q => ha q.1), if_neg (fun q => ha q.1)]
theorem ent_sh (n : Nat) {g a l : Nat} (hg : g < 32) (hl : l < 40) (X : Int32) (I : MI) (J : MJ) : ∀ q k, a ≤ k → k ≤ l → k < q + a → lX10_enters_105 n q X (nI (40 * g)) (nI a) (nI k) (shI I g k l) J = some (upM (shI I g a l) 52 (40 * g + a) X, J) := by
  intro q
  induction q with
  | zero => intro k h1 h2 h3; omega
  | succ q ih =>
    intro k h1 h2 h3
    show fX10_enters_105 n (lX10_enters_105 n q) _ _ _ _ _ _ = _
    unfold fX10_enters_105
    by_cases hk : k = a
    · subst hk
      rw [if_pos (Int32.le_refl _), nI_add, if_pos (inb_nI (by omega) (by decide)), clampI (by omega)]
      rfl
    · obtain ⟨k, rfl⟩ : ∃ z, k = z + 1 := ⟨k - 1, by omega⟩
      have e1 : nI (40 * g) + nI (k + 1) - 1 = nI (40 * g + k) := by
        rw [nI_add]
        exact pk_sub (a := 40 * g + (k + 1)) (b := 1) (by omega)
      rw [if_neg (nI_ge (by omega) (by omega)), e1, nI_add, if_pos (inb_nI (by omega) (by decide)), if_pos (inb_nI (by omega) (by decide)), clampI (by omega), clampI (by omega), pk_m1, shI_step (by omega)]
      exact ih k (by omega) (by omega) (by omega)
/-- the row of gate g in the reference: the cuts p, all else as at first -/
def rowI (I0 : MI) (g : Nat) (p : Cuts) (I : MI) : Prop := I 53 g = nI p.1 ∧ (∀ i, i < p.1 → I 52 (40 * g + i) = nI (p.2 i)) ∧ ∀ a b, (a ≠ 52 ∨ b < 40 * g ∨ 40 * g + 40 ≤ b) → (a ≠ 53 ∨ b ≠ g) → I a b = I0 a b
theorem enters_raw (n : Nat) (hn : 2400 < n) {g v s : Nat} {r : Nat → Nat} {p : Cuts} (hg : g < 32) (hp : ct_ok r v p) (h32 : ∀ i, i < p.1 → p.2 i < 4294967296) (hs32 : s < 4294967296) (I : MI) (J : MJ) (hah : ∀ i, i < p.1 → fX10_isAhead n (nI (p.2 i)) (nI s) I J = some (b2 (r (p.2 i) < r s), I, J)) (h53 : I 53 g = nI p.1) (h52 : ∀ i, i < p.1 → I 52 (40 * g + i) = nI (p.2 i)) : ∃ I', fX10_enters n (nI g) (nI s) I J = some (I', J) ∧ rowI I g (ct_ent r s p) I' := by
  obtain ⟨p1, p2, p3⟩ := hp
  have hle := ct_at_le r s p
  have scan : ∀ q a, a ≤ ct_at r s p → ct_at r s p < q + a → lX10_enters_8 n q (nI g) (nI s) (nI (40 * g)) (nI a) I J = fX10_enters_42 n (nI g) (nI s) (nI (40 * g)) (nI (ct_at r s p)) I J := by
    intro q
    induction q with
    | zero => intro a h1 h2; omega
    | succ q ih =>
      intro a h1 h2
      show fX10_enters_8 n (lX10_enters_8 n q) _ _ _ _ _ _ = _
      unfold fX10_enters_8
      rw [if_pos (inb_nI (by omega) (by decide)), clampI (by omega), h53]
      by_cases hc : a = p.1
      · rw [if_pos (nI_le (by omega) (by omega)), show ct_at r s p = a by omega]
      · have ha : a < p.1 := by omega
        rw [if_neg (nI_ge ha (by omega)), nI_add, if_pos (inb_nI (by omega) (by decide)), clampI (by omega), h52 a ha, hah a ha, nI_1]
        simp only [Option.bind_some]
        by_cases hat : a = ct_at r s p
        · have := ct_at_at (r := r) (s := s) (p := p) (by omega)
          rw [← hat] at this
          rw [if_pos (b2_f (by omega)), ← hat]
        · have := ct_at_lt (r := r) (s := s) (p := p) (i := a) (by omega)
          rw [if_neg (fun q => b2_0.mp q this)]
          exact ih (a + 1) (by omega) (by omega)
  have h0 : fX10_enters n (nI g) (nI s) I J = fX10_enters_42 n (nI g) (nI s) (nI (40 * g)) (nI (ct_at r s p)) I J := by
    unfold fX10_enters
    rw [show (40 : Int32) = nI 40 from rfl, pk_mul]
    exact scan n 0 (Nat.zero_le _) (by omega)
  have hself : rowI I g p I := ⟨h53, h52, fun _ _ _ _ => rfl⟩
  rw [h0]
  unfold fX10_enters_42 ct_ent
  rw [if_pos (inb_nI (by omega) (by decide)), clampI (by omega), h53]
  by_cases hk : ct_at r s p < p.1 ∧ p.2 (ct_at r s p) = s
  · rw [if_pos (Or.inl hk), if_neg (nI_ge hk.1 (by omega)), nI_add, if_pos (inb_nI (by omega) (by decide)), clampI (by omega), h52 _ hk.1, hk.2, if_pos rfl]
    exact ⟨I, rfl, hself⟩
  have h66 : (if nI p.1 ≤ nI (ct_at r s p) then fX10_enters_66 n (nI g) (nI s) (nI (40 * g)) (nI (ct_at r s p)) I J else if inb (nI (40 * g) + nI (ct_at r s p)) 1280 = true then if I 52 (nI (40 * g) + nI (ct_at r s p)).toNatClampNeg = nI s then some (I, J) else fX10_enters_66 n (nI g) (nI s) (nI (40 * g)) (nI (ct_at r s p)) I J else none) = fX10_enters_66 n (nI g) (nI s) (nI (40 * g)) (nI (ct_at r s p)) I J := by
    by_cases hc : p.1 ≤ ct_at r s p
    · rw [if_pos (nI_le hc (by omega))]
    · rw [if_neg (nI_ge (by omega) (by omega)), nI_add, if_pos (inb_nI (by omega) (by decide)), clampI (by omega), h52 _ (by omega), if_neg (fun q => hk ⟨by omega, (nI_eq32 (h32 (ct_at r s p) (by omega)) hs32).mp q⟩)]
  rw [h66]
  unfold fX10_enters_66
  by_cases h40 : ct_at r s p = 40
  · rw [if_pos (by rw [h40]; rfl), if_pos (Or.inr (by omega))]
    exact ⟨I, rfl, hself⟩
  rw [if_neg (show ¬ nI (ct_at r s p) = (40 : Int32) from fun q => h40 ((nI_eq (b := 40) (by omega) (by decide)).mp q)), if_neg (show ¬ ((ct_at r s p < p.1 ∧ p.2 (ct_at r s p) = s) ∨ 40 ≤ ct_at r s p) from fun q => q.elim hk (fun z => by omega)), if_pos (inb_nI (by omega) (by decide)), clampI (by omega), h53]
  have h95 : ∀ I1 : MI, I1 53 g = nI (min p.1 39 + 1) → (∀ a b, a ≠ 53 → I1 a b = I a b) → (∀ b, b ≠ g → I1 53 b = I 53 b) → ∃ I', fX10_enters_95 n (nI g) (nI s) (nI (40 * g)) (nI (ct_at r s p)) I1 J = some (I', J) ∧ rowI I g (ct_put (ct_at r s p) s p) I' := by
    intro I1 q1 q2 q3
    have e1 : nI (min p.1 39 + 1) - 1 = nI (min p.1 39) := pk_sub (a := min p.1 39 + 1) (b := 1) (by omega)
    have hs0 : shI I1 g (min p.1 39) (min p.1 39) = I1 := by
      funext a b
      exact if_neg (fun q => by omega)
    have hsh := ent_sh n (a := ct_at r s p) (l := min p.1 39) hg (by omega) (nI s) I1 J n (min p.1 39) (by omega) (Nat.le_refl _) (by omega)
    rw [hs0] at hsh
    unfold fX10_enters_95
    rw [if_pos (inb_nI (by omega) (by decide)), clampI (by omega), q1, e1]
    refine ⟨_, hsh, ?_, fun i hi => ?_, fun a b h1 h2 => ?_⟩
    · rw [upM_ne 53 (by decide)]
      unfold shI
      rw [if_neg (fun q => absurd q.1 (by decide))]
      exact q1
    · have hi' : i < min p.1 39 + 1 := hi
      show upM _ 52 (40 * g + ct_at r s p) (nI s) 52 (40 * g + i) = nI (if i < ct_at r s p then p.2 i else if i = ct_at r s p then s else p.2 (i - 1))
      rw [upM_get, if_pos rfl]
      by_cases i1 : i < ct_at r s p
      · rw [if_neg (by omega), if_pos i1]
        unfold shI
        rw [if_neg (fun q => by omega), q2 52 _ (by decide)]
        exact h52 i (by omega)
      · by_cases i2 : i = ct_at r s p
        · rw [if_pos (by omega), if_neg i1, if_pos i2]
        · rw [if_neg (by omega), if_neg i1, if_neg i2]
          unfold shI
          rw [if_pos ⟨rfl, by omega, by omega⟩, show 40 * g + i - 1 = 40 * g + (i - 1) by omega, q2 52 _ (by decide)]
          exact h52 (i - 1) (by omega)
    · have e : upM (shI I1 g (ct_at r s p) (min p.1 39)) 52 (40 * g + ct_at r s p) (nI s) a b = I1 a b := by
        rw [upM_get]
        by_cases ha : a = 52
        · rw [if_pos ha, if_neg (by omega)]
          unfold shI
          rw [if_neg (fun q => by omega)]
        · rw [if_neg ha]
          unfold shI
          rw [if_neg (fun q => ha q.1)]
      rw [e]
      by_cases h53' : a = 53
      · subst h53'
        exact q3 b (by omega)
      · exact q2 a b h53'
  by_cases hfull : p.1 = 40
  · rw [if_pos (show (40 : Int32) ≤ nI p.1 from nI_le (a := 40) (by omega) (by omega))]
    exact h95 I (by rw [h53, hfull]; rfl) (fun _ _ _ => rfl) (fun _ _ => rfl)
  · rw [if_neg (show ¬ (40 : Int32) ≤ nI p.1 from nI_ge (b := 40) (by omega) (by decide)), if_pos (inb_nI (by omega) (by decide)), if_pos (inb_nI (by omega) (by decide)), nI_1]
    refine h95 (upM I 53 g (nI (p.1 + 1))) ?_ (fun a b h => ?_) (fun b h => ?_)
    · rw [upM_get, if_pos rfl, if_pos rfl, Nat.min_eq_left (by omega)]
    · rw [upM_get, if_neg h]
    · rw [upM_get, if_pos rfl, if_neg h]
theorem enters_ok (n : Nat) (hn : 2400 < n) {g s : Nat} {D : Nat → Nat} {p : Cuts} (hg : g < 32) (hp : ct_ok (ct_rk g D) g p) (hs : s < 2 ^ g) (I : MI) (J : MJ) (h54 : ∀ i, i < g → I 54 i = nI (D i) ∧ D i ≤ 31) (h53 : I 53 g = nI p.1) (h52 : ∀ i, i < p.1 → I 52 (40 * g + i) = nI (p.2 i)) : ∃ I', fX10_enters n (nI g) (nI s) I J = some (I', J) ∧ rowI I g (ct_ent (ct_rk g D) s p) I' := by
  have hs32 := ct_lt32 (show g ≤ 32 by omega) hs
  have hbit : ∀ z, z < 2 ^ g → ∀ i, i < 32 → z.testBit i = true → I 54 i = nI (D i) ∧ D i ≤ 31 := by
    intro z hz i hi hb
    by_cases hig : i < g
    · exact h54 i hig
    · rw [ct_tb hz (by omega)] at hb
      cases hb
  have hp3 := hp.2.2
  exact enters_raw n hn hg hp (fun i hi => ct_lt32 (by omega) (hp3 i hi).1) hs32 I J (fun i hi => (isAhead_eq n hn I J (ct_lt32 (by omega) (hp3 i hi).1) hs32 (hbit _ (hp3 i hi).1) (hbit _ hs)).trans (congrArg (fun z => some (z, I, J)) (b2_iff (by rw [rk_ext (g := 32) (hp3 i hi).1 (by omega), rk_ext (g := 32) hs (by omega)])))) h53 h52
theorem partOf_eq (n : Nat) {K : Nat → Cuts} {D : Nat → Nat} {I : MI} {J : MJ} {a i : Nat} (ha : a < 32) (hk : krOk K D I a) (hw : (K a).1 ≤ 40) (hi : i ≤ (K a).1) : fX10_partOf n (nI a) (nI i) I J = some (nI (ct_ch (K a) a i), I, J) := by
  obtain ⟨k1, k2, k3⟩ := hk
  unfold fX10_partOf ct_ch
  rw [if_pos (inb_nI (by omega) (by decide)), clampI (by omega), k1]
  by_cases hc : i < (K a).1
  · have e40 : (40 : Int32) * nI a + nI i = nI (40 * a + i) := by rw [show (40 : Int32) = nI 40 from rfl, pk_mul, nI_add]
    rw [if_neg (nI_ge hc (by omega)), e40, if_pos (inb_nI (by omega) (by decide)), clampI (by omega), k3 i hc, if_pos hc]
  · rw [if_pos (nI_le (by omega) (by omega)), if_neg hc, one_sh a ha]
