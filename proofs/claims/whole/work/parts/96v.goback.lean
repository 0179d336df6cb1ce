/-! ways: goBack of the class, leadTo of the reference -/
theorem gb9_ok (n : Nat) (hn : 2400 < n) {N M i : Nat} {lo hi p d : Nat → Nat} {S : Nat → Bool} (hN : N ≤ 36) (hM : M ≤ 60) (hg : ∀ j, j < M → lo j < N ∧ hi j < N ∧ lo j ≠ hi j) (hp : ∀ j, j < M → 1 ≤ p j) (hi32 : i < 32) (hd0 : ∀ t, t < N → S t = true → d t = 0) (hdb : ∀ t, t < N → d t ≤ 1000000000) (I0 : MI) (hA0 : gfA N M lo hi I0) (hm0 : msC N M lo hi p I0) (h33 : ∀ t, t < N → I0 33 t = nI (d t)) : ∀ (l : List (Nat × Nat)) (t s : Nat) (x4 : Int64) (H : Nat → Nat → Bool) (I : MI) (J : MJ) (q : Nat), wlk M lo hi p d S t l → t < N → l.length + s ≤ N → l.length < q → wyC I J H → okA M H i (l.map (fun x => x.2)) → (∀ a, a ≠ 29 → I a = I0 a) → ∃ x4' I' J', lX8_goBack_9 n q (nI i) x4 (nI t) (nI s) I J = fX8_goBack_102 n x4' I' J' ∧ wyC I' J' (addA H i (l.map (fun x => x.2))) ∧ (∀ a, a ≠ 29 → I' a = I0 a) ∧ (∀ a, a ≠ 31 → J' a = J a) ∧ ∀ x, x < 64 → (bl x4' x = true ↔ bl x4 x = true ∨ x ∈ l.map (fun x => x.1)) := by
  intro l
  induction l with
  | nil =>
    intro t s x4 H I J q hw ht hs hq hC hok hI
    obtain ⟨q, rfl⟩ : ∃ z, q = z + 1 := ⟨q - 1, by omega⟩
    have e : lX8_goBack_9 n (q + 1) (nI i) x4 (nI t) (nI s) I J = fX8_goBack_9 n (lX8_goBack_9 n q) (nI i) x4 (nI t) (nI s) I J := rfl
    refine ⟨x4, I, J, ?_, hC, hI, fun _ _ => rfl, fun x _ => ⟨fun z => Or.inl z, fun z => z.elim id (fun y => absurd y List.not_mem_nil)⟩⟩
    rw [e]
    unfold fX8_goBack_9
    rw [hI 16 (by decide), hm0.1]
    by_cases hsN : N ≤ s
    · rw [if_pos (nI_le hsN (by omega))]
    · rw [if_neg (nI_ge (by omega) (by omega)), if_pos (inb_nI (by omega) (by decide)), clampI (by omega), hI 33 (by decide), h33 t ht, hd0 t ht hw, if_pos (by decide)]
  | cons x l ih =>
    intro t s x4 H I J q hw ht hs hq hC hok hI
    obtain ⟨q, rfl⟩ : ∃ z, q = z + 1 := ⟨q - 1, by omega⟩
    have e : lX8_goBack_9 n (q + 1) (nI i) x4 (nI t) (nI s) I J = fX8_goBack_9 n (lX8_goBack_9 n q) (nI i) x4 (nI t) (nI s) I J := rfl
    obtain ⟨hx, hS, o, hB, hw'⟩ := hw
    obtain ⟨-, hno, hok'⟩ := hok
    have hj : x.2 < M := hB.1
    have hno : H i x.2 = false := hno
    rw [List.length_cons] at hs hq
    have hi1 := hB.2.1
    have hp1 := hp x.2 hj
    have hd1 : 1 ≤ d t := by have := hB.2.2.1; omega
    have hdt := hdb t ht
    obtain ⟨-, ho, -⟩ := inc_N hg hj hi1
    obtain ⟨y1, y2, -, -⟩ := hm0.2.2 x.2 hj
    have ii : inb (nI i) 32 = true := inb_nI hi32 (by decide)
    have ij : inb (nI x.2) 60 = true := inb_nI (by omega) (by decide)
    have hjb := jback_ok n hn hN hM hg I J (by unfold gfA; rw [hI 21 (by decide)]; exact hA0) (by unfold msC; rw [hI 16 (by decide), hI 19 (by decide), hI 20 (by decide), hI 32 (by decide)]; exact hm0) (by rw [hI 33 (by decide)]; exact h33) hdb ht hB
    rw [e]
    unfold fX8_goBack_9
    rw [hI 16 (by decide), hm0.1, if_neg (nI_ge (by omega) (by omega)), if_pos (inb_nI (by omega) (by decide)), clampI (show t < 2 ^ 31 by omega), hI 33 (by decide), h33 t ht, if_neg (nI_ne0 (by omega) (by omega)), hjb]
    simp only [Option.bind_some, lt]
    rw [if_neg (nI_m1 (by omega))]
    simp only [ii, ij, if_true]
    rw [clampI (show i < 2 ^ 31 by omega), clampI (show x.2 < 2 ^ 31 by omega)]
    obtain ⟨I1, hI1⟩ : ∃ I1, I1 = upM I 29 x.2 (I 29 x.2 + 1) := ⟨_, rfl⟩
    obtain ⟨J1, hJ1⟩ : ∃ J1, J1 = upN J 31 i (J 31 i ||| shlL 1 (nI x.2)) := ⟨_, rfl⟩
    rw [← hI1, ← hJ1, beyond_ok n hN hM hg hj hi1 I1 J1 (by rw [hI1, upM_ne 19 (by decide), hI 19 (by decide)]; exact y1) (by rw [hI1, upM_ne 20 (by decide), hI 20 (by decide)]; exact y2)]
    simp only [Option.bind_some]
    rw [nI_1]
    have hC1 : wyC I1 J1 (addH H i x.2) := wyC_add hi32 (by omega) hno hC (fun b => by rw [hI1, upM_get, if_pos rfl]) (fun a => by
      rw [hJ1, upN_get, if_pos rfl])
    obtain ⟨x4', I', J', z1, z2, z3, z4, z5⟩ := ih o (s + 1) (x4 ||| shlL 1 (nI t)) (addH H i x.2) I1 J1 q hw' ho (by omega) (by omega) hC1 hok' (fun a ha => by rw [hI1, upM_ne a ha]; exact hI a ha)
    refine ⟨x4', I', J', z1, z2, z3, fun a ha => by
      rw [z4 a ha, hJ1]
      funext b
      rw [upN_get, if_neg ha], fun y hy => ?_⟩
    rw [z5 y hy, bl_put (by omega) hy, List.map_cons, List.mem_cons, hx]
    constructor
    · rintro ((h | h) | h)
      · exact Or.inl h
      · exact Or.inr (Or.inl h)
      · exact Or.inr (Or.inr h)
    · rintro (h | h | h)
      · exact Or.inl (Or.inl h)
      · exact Or.inl (Or.inr h)
      · exact Or.inr h
theorem jt_ok (n : Nat) (hn : 2400 < n) {N : Nat} (hN : N ≤ 36) (x1 : Int64) (I : MI) (J : MJ) (h16 : I 16 1 = nI N) : ∃ I', fX8_joinTree n x1 I J = some (I', J) ∧ (∀ a, a ≠ 33 → I' a = I a) ∧ ∀ t, t < N → I' 33 t = if bl x1 t = true then 0 else I 33 t := by
  have l : ∀ q k I1, k ≤ N → N < q + k → (∀ a, a ≠ 33 → I1 a = I a) → (∀ t, t < N → I1 33 t = if t < k ∧ bl x1 t = true then 0 else I 33 t) → ∃ I', lX8_joinTree_3 n q x1 (nI k) I1 J = some (I', J) ∧ (∀ a, a ≠ 33 → I' a = I a) ∧ ∀ t, t < N → I' 33 t = if bl x1 t = true then 0 else I 33 t := by
    intro q
    induction q with
    | zero => intro k I1 h1 h2; omega
    | succ q ih =>
      intro k I1 h1 h2 f1 f2
      have e : lX8_joinTree_3 n (q + 1) x1 (nI k) I1 J = fX8_joinTree_3 n (lX8_joinTree_3 n q) x1 (nI k) I1 J := rfl
      rw [e]
      unfold fX8_joinTree_3 fX8_joinTree_29
      rw [f1 16 (by decide), h16]
      by_cases hk : k = N
      · subst hk
        rw [if_pos (Int32.le_refl _)]
        refine ⟨I1, rfl, f1, fun t ht => ?_⟩
        rw [f2 t ht]
        simp only [ht, true_and]
      rw [if_neg (nI_ge (by omega) (by omega)), hasBit_eq n x1 (by omega), nI_1]
      simp only [Option.bind_some]
      by_cases hb : bl x1 k = true
      · rw [b2_t hb, if_neg (by decide), if_pos (inb_nI (by omega) (by decide)), clampI (by omega)]
        simp only [lt]
        refine ih (k + 1) _ (by omega) (by omega) (fun a ha => by rw [upM_ne a ha]; exact f1 a ha) (fun t ht => ?_)
        rw [upM_get, if_pos rfl]
        by_cases hq : t = k
        · rw [if_pos hq, if_pos ⟨by omega, by rw [hq]; exact hb⟩]
        · have : (t < k + 1) ↔ t < k := by omega
          rw [if_neg hq, f2 t ht]
          simp only [this]
      · rw [b2_f hb, if_pos rfl]
        refine ih (k + 1) I1 (by omega) (by omega) f1 (fun t ht => ?_)
        rw [f2 t ht]
        by_cases hq : t = k
        · rw [if_neg (fun z => by omega), if_neg (fun z => hb (by rw [← hq]; exact z.2))]
        · have : (t < k + 1) ↔ t < k := by omega
          simp only [this]
  exact l n 0 I (Nat.zero_le _) (by omega) (fun _ _ => rfl) (fun t ht => by rw [if_neg (fun z => absurd z.1 (Nat.not_lt_zero _))])
theorem goBack_ok (n : Nat) (hn : 2400 < n) {N M i t : Nat} {lo hi p d : Nat → Nat} {S : Nat → Bool} (hN : N ≤ 36) (hM : M ≤ 60) (hg : ∀ j, j < M → lo j < N ∧ hi j < N ∧ lo j ≠ hi j) (hp : ∀ j, j < M → 1 ≤ p j) (hi32 : i < 32) (hd0 : ∀ t, t < N → S t = true → d t = 0) (hdb : ∀ t, t < N → d t ≤ 1000000000) (I : MI) (J : MJ) (hA : gfA N M lo hi I) (hm : msC N M lo hi p I) (h33 : ∀ t, t < N → I 33 t = nI (d t)) {l : List (Nat × Nat)} {H : Nat → Nat → Bool} (hw : wlk M lo hi p d S t l) (ht : t < N) (hl : l.length ≤ N) (hC : wyC I J H) (hok : okA M H i (l.map (fun x => x.2))) : ∃ I' J', fX8_goBack n (nI i) (nI t) I J = some (I', J') ∧ wyC I' J' (addA H i (l.map (fun x => x.2))) ∧ (∀ a, a ≠ 29 → a ≠ 33 → I' a = I a) ∧ (∀ a, a ≠ 31 → J' a = J a) ∧ ∀ x, x < N → I' 33 x = nI (if x ∈ l.map (fun x => x.1) then 0 else d x) := by
  obtain ⟨x4, I1, J1, z1, z2, z3, z4, z5⟩ := gb9_ok n hn hN hM hg hp hi32 hd0 hdb I hA hm h33 l t 0 0 H I J n hw ht (by omega) (by omega) hC hok (fun _ _ => rfl)
  obtain ⟨I2, y1, y2, y3⟩ := jt_ok n hn hN x4 I1 J1 (by rw [z3 16 (by decide)]; exact hm.1)
  refine ⟨I2, J1, ?_, ⟨?_, z2.2⟩, fun a q1 q2 => by rw [y2 a q2]; exact z3 a q1, z4, fun x hx => ?_⟩
  · have z1' : fX8_goBack n (nI i) (nI t) I J = fX8_goBack_102 n x4 I1 J1 := z1
    rw [z1']
    unfold fX8_goBack_102
    rw [y1]
    rfl
  · rw [y2 29 (by decide)]; exact z2.1
  · rw [y3 x hx, z3 33 (by decide), h33 x hx]
    have := z5 x (by omega)
    rw [bl_0] at this
    by_cases q : x ∈ l.map (fun x => x.1)
    · rw [if_pos (this.mpr (Or.inr q)), if_pos q]; rfl
    · rw [if_neg (fun z => (this.mp z).elim (fun y => absurd y (by decide)) q), if_neg q]
/-! the reference -/
theorem lt80_ok (n : Nat) {M i : Nat} (hM : M ≤ 60) (hi32 : i < 32) (J : MJ) : ∀ (r : List Nat) (k : Nat) (H : Nat → Nat → Bool) (K : MI) (q : Nat), r.length < q → k + r.length ≤ 60 → okA M H i r → (∀ m, m < r.length → K 67 (k + m) = nI (at0 r m)) → wyR K H → ∃ K', lX10_leadTo_80 n q (nI i) (nI (k + r.length)) (nI k) K J = some (K', J) ∧ wyR K' (addA H i r) ∧ ∀ a, a ≠ 62 → a ≠ 63 → K' a = K a := by
  intro r
  induction r with
  | nil =>
    intro k H K q hq hk hok h67 hW
    obtain ⟨q, rfl⟩ : ∃ z, q = z + 1 := ⟨q - 1, by omega⟩
    have e : lX10_leadTo_80 n (q + 1) (nI i) (nI (k + ([] : List Nat).length)) (nI k) K J = fX10_leadTo_80 n (lX10_leadTo_80 n q) (nI i) (nI (k + ([] : List Nat).length)) (nI k) K J := rfl
    refine ⟨K, ?_, hW, fun _ _ _ => rfl⟩
    rw [e]
    unfold fX10_leadTo_80
    rw [List.length_nil, Nat.add_zero, if_pos (Int32.le_refl _)]
  | cons j r ih =>
    intro k H K q hq hk hok h67 hW
    obtain ⟨q, rfl⟩ : ∃ z, q = z + 1 := ⟨q - 1, by omega⟩
    have e : lX10_leadTo_80 n (q + 1) (nI i) (nI (k + (j :: r).length)) (nI k) K J = fX10_leadTo_80 n (lX10_leadTo_80 n q) (nI i) (nI (k + (j :: r).length)) (nI k) K J := rfl
    rw [List.length_cons] at hq hk
    obtain ⟨hj, hno, hok'⟩ := hok
    have e67 : K 67 k = nI j := by
      have := h67 0 (by rw [List.length_cons]; omega)
      exact this
    have e60 : (60 : Int32) * nI i + nI j = nI (60 * i + j) := by rw [show (60 : Int32) = nI 60 from rfl, pk_mul, nI_add]
    have ik : inb (nI k) 60 = true := inb_nI (by omega) (by decide)
    have ij : inb (nI j) 60 = true := inb_nI (by omega) (by decide)
    have i19 : inb (nI (60 * i + j)) 1920 = true := inb_nI (by omega) (by decide)
    rw [e]
    unfold fX10_leadTo_80
    rw [List.length_cons, if_neg (nI_ge (by omega) (by omega)), clampI (show k < 2 ^ 31 by omega), e67, e60]
    simp only [ik, i19, if_true, lt]
    rw [clampI (show 60 * i + j < 2 ^ 31 by omega)]
    obtain ⟨K1, hK1⟩ : ∃ K1, K1 = upM K 62 (60 * i + j) (bz 1) := ⟨_, rfl⟩
    have k67 : K1 67 k = nI j := by rw [hK1, upM_ne 67 (by decide)]; exact e67
    rw [← hK1, k67]
    simp only [ij, if_true]
    rw [clampI (show j < 2 ^ 31 by omega), nI_1]
    obtain ⟨K2, hK2⟩ : ∃ K2, K2 = upM K1 63 j (K1 63 j + 1) := ⟨_, rfl⟩
    have f2 : ∀ a, a ≠ 62 → a ≠ 63 → K2 a = K a := fun a q1 q2 => by rw [hK2, upM_ne a q2, hK1, upM_ne a q1]
    have hW2 : wyR K2 (addH H i j) := wyR_add hi32 (by omega) hno hW (fun b => by rw [hK2, upM_get, if_pos rfl, hK1, upM_ne 63 (by decide)]) (fun b => by rw [hK2, upM_ne 62 (by decide), hK1, upM_get, if_pos rfl]; rfl)
    obtain ⟨K', z1, z2, z3⟩ := ih (k + 1) (addH H i j) K2 q (by omega) (by omega) hok' (fun m hm => by
      rw [f2 67 (by decide) (by decide)]
      have := h67 (m + 1) (by rw [List.length_cons]; omega)
      rw [show k + 1 + m = k + (m + 1) by omega]
      exact this) hW2
    rw [← hK2]
    refine ⟨K', ?_, z2, fun a q1 q2 => by rw [z3 a q1 q2]; exact f2 a q1 q2⟩
    rw [show k + (r.length + 1) = k + 1 + r.length by omega]
    exact z1
theorem lt9_ok (n : Nat) (hn : 2400 < n) {N M w h i : Nat} {lo hi p d : Nat → Nat} {S : Nat → Bool} (hN : N ≤ 36) (hM : M ≤ 60) (hg : ∀ j, j < M → lo j < N ∧ hi j < N ∧ lo j ≠ hi j) (hu : ∀ j j' t o, j < M → j' < M → inc lo hi j t o → inc lo hi j' t o → j = j') (hR : gfR n N M lo hi w h) (hp : ∀ j, j < M → 1 ≤ p j ∧ p j ≤ 1000000) (hdb : ∀ t, t < N → d t ≤ 1000000000) (K0 : MI) (J : MJ) (e24 : K0 44 24 = nI w) (e25 : K0 44 25 = nI h) (hpr : ∀ K : MI, (∀ a, a ≠ 65 → a ≠ 66 → a ≠ 67 → K a = K0 a) → ∀ j, j < M → fX10_price n (nI j) K J = some (nI (p j), K, J)) (h65 : ∀ t, t < N → K0 65 t = nI (d t)) : ∀ (l : List (Nat × Nat)) (t : Nat) (fl : List Nat) (vis : Nat → Bool) (K : MI) (q : Nat), wlk M lo hi p d S t l → t < N → l.length < q → fl.length + l.length ≤ 60 → (∀ m, m < fl.length → K 67 m = nI (at0 fl m)) → (∀ x, x < N → K 66 x = bi (S x || vis x)) → (∀ x, x < N → vis x = true → d t < d x) → (∀ a, a ≠ 66 → a ≠ 67 → K a = K0 a) → ∃ K', lX10_leadTo_9 n q (nI i) (nI fl.length) (nI t) K J = lX10_leadTo_80 n n (nI i) (nI (fl.length + l.length)) 0 K' J ∧ (∀ m, m < fl.length + l.length → K' 67 m = nI (at0 (fl ++ l.map (fun x => x.2)) m)) ∧ (∀ x, x < N → K' 66 x = bi (S x || vis x || decide (x ∈ l.map (fun x => x.1)))) ∧ ∀ a, a ≠ 66 → a ≠ 67 → K' a = K0 a := by
  intro l
  induction l with
  | nil =>
    intro t fl vis K q hw ht hq hfl h67 h66 hvis hK
    obtain ⟨q, rfl⟩ : ∃ z, q = z + 1 := ⟨q - 1, by omega⟩
    have e : lX10_leadTo_9 n (q + 1) (nI i) (nI fl.length) (nI t) K J = fX10_leadTo_9 n (lX10_leadTo_9 n q) (nI i) (nI fl.length) (nI t) K J := rfl
    have hS : S t = true := hw
    refine ⟨K, ?_, fun m hm => ?_, fun x hx => ?_, hK⟩
    · rw [e]
      unfold fX10_leadTo_9
      rw [if_pos (inb_nI (by omega) (by decide)), clampI (by omega), h66 t ht, hS, Bool.true_or, if_neg (by decide)]
      rfl
    · rw [List.map_nil, List.append_nil]
      exact h67 m hm
    · rw [h66 x hx, List.map_nil, decide_eq_false List.not_mem_nil, Bool.or_false]
  | cons x l ih =>
    intro t fl vis K q hw ht hq hfl h67 h66 hvis hK
    obtain ⟨q, rfl⟩ : ∃ z, q = z + 1 := ⟨q - 1, by omega⟩
    have e : lX10_leadTo_9 n (q + 1) (nI i) (nI fl.length) (nI t) K J = fX10_leadTo_9 n (lX10_leadTo_9 n q) (nI i) (nI fl.length) (nI t) K J := rfl
    obtain ⟨hx, hS, o, hB, hw'⟩ := hw
    rw [List.length_cons] at hq hfl
    obtain ⟨hj, hi1, hb, -⟩ := id hB
    have hp1 := (hp x.2 hj).1
    obtain ⟨g1, g2, g3⟩ := hg x.2 hj
    obtain ⟨-, ho, -⟩ := inc_N hg hj hi1
    have hvt : vis t = false := by
      cases q1 : vis t with
      | false => rfl
      | true => exact absurd (hvis t ht q1) (Nat.lt_irrefl _)
    have hbf := bfrom_ok n hn hN hM hg hu hR K J (by rw [hK 44 (by decide) (by decide)]; exact e24) (by rw [hK 44 (by decide) (by decide)]; exact e25) (hpr K (fun a _ q2 q3 => hK a q2 q3)) (fun j hj => (hp j hj).2) (by rw [hK 65 (by decide) (by decide)]; exact h65) hdb ht hB
    have it : inb (nI t) 36 = true := inb_nI (by omega) (by decide)
    have ifl : inb (nI fl.length) 60 = true := inb_nI (by omega) (by decide)
    rw [e]
    unfold fX10_leadTo_9 fX10_leadTo_72
    rw [clampI (show t < 2 ^ 31 by omega), h66 t ht, hS, hvt]
    simp only [it, if_true]
    rw [if_pos (by decide), hbf]
    simp only [Option.bind_some, lt, ifl, if_true]
    rw [clampI (show fl.length < 2 ^ 31 by omega), nI_1]
    obtain ⟨K1, hK1⟩ : ∃ K1, K1 = upM (upM K 67 fl.length (nI x.2)) 66 t (bz 1) := ⟨_, rfl⟩
    have f1 : ∀ a, a ≠ 66 → a ≠ 67 → K1 a = K0 a := fun a q1 q2 => by rw [hK1, upM_ne a q1, upM_ne a q2]; exact hK a q1 q2
    obtain ⟨-, -, r3⟩ := hR K1 J (by rw [f1 44 (by decide) (by decide)]; exact e24) (by rw [f1 44 (by decide) (by decide)]; exact e25)
    rw [← hK1, (r3 x.2 hj).1]
    simp only [Option.bind_some]
    have hnext : (if nI (lo x.2) = nI t then Option.bind (fX10_greater n (nI x.2) K1 J) (fun r60 => lX10_leadTo_9 n q (nI i) (nI (fl.length + 1)) r60.1 r60.2.1 r60.2.2) else Option.bind (fX10_lesser n (nI x.2) K1 J) (fun r69 => lX10_leadTo_9 n q (nI i) (nI (fl.length + 1)) r69.1 r69.2.1 r69.2.2)) = lX10_leadTo_9 n q (nI i) (nI (fl.length + 1)) (nI o) K1 J := by
      rcases hi1 with ⟨y1, y2⟩ | ⟨y1, y2⟩
      · rw [if_pos (by rw [y1]), (r3 x.2 hj).2, y2]; rfl
      · rw [if_neg (fun z => g3 (by rw [y1]; exact (nI_eq (by omega) (by omega)).mp z)), (r3 x.2 hj).1, y2]; rfl
    have hel : (fl ++ [x.2]).length = fl.length + 1 := len_1 _ _
    obtain ⟨K', z1, z2, z3, z4⟩ := ih o (fl ++ [x.2]) (fun y => vis y || decide (y = t)) K1 q hw' ho (by omega) (by rw [hel]; omega) (fun m hm => by
      rw [hel] at hm
      rw [hK1, upM_ne 67 (by decide), upM_get, if_pos rfl]
      by_cases q1 : m = fl.length
      · rw [if_pos q1, q1, at0_end]
      · rw [if_neg q1, at0_l _ _ _ (by omega)]
        exact h67 m (by omega)) (fun y hy => by
      rw [hK1, upM_get, if_pos rfl]
      by_cases q1 : y = t
      · rw [if_pos q1, decide_eq_true q1, Bool.or_true, Bool.or_true]; rfl
      · rw [if_neg q1, upM_ne 66 (by decide), h66 y hy, decide_eq_false q1, Bool.or_false]) (fun y hy hv => by
      have hdo : d o < d t := by omega
      rcases Bool.or_eq_true_iff.mp hv with v | v
      · have := hvis y hy v; omega
      · rw [of_decide_eq_true v]; exact hdo) f1
    rw [hel] at z1 z2
    refine ⟨K', ?_, fun m hm => ?_, fun y hy => ?_, z4⟩
    · rw [List.length_cons, show fl.length + (l.length + 1) = fl.length + 1 + l.length by omega]
      exact hnext.trans z1
    · rw [List.length_cons] at hm
      rw [z2 m (by omega), List.append_assoc]
      rfl
    · rw [z3 y hy, List.map_cons]
      have : decide (y ∈ x.1 :: l.map (fun x => x.1)) = (decide (y = t) || decide (y ∈ l.map (fun x => x.1))) := by
        rw [hx]
        by_cases q1 : y = t
        · rw [decide_eq_true q1, Bool.true_or]
          exact decide_eq_true (by rw [q1]; exact List.mem_cons_self ..)
        · rw [decide_eq_false q1, Bool.false_or]
          exact decide_eq_decide.mpr ⟨fun z => (List.mem_cons.mp z).resolve_left q1, fun z => List.mem_cons_of_mem _ z⟩
      rw [this, Bool.or_assoc, Bool.or_assoc, Bool.or_assoc]
theorem leadTo_ok (n : Nat) (hn : 2400 < n) {N M w h i t : Nat} {lo hi p d : Nat → Nat} {S : Nat → Bool} (hN : N ≤ 36) (hM : M ≤ 60) (hg : ∀ j, j < M → lo j < N ∧ hi j < N ∧ lo j ≠ hi j) (hu : ∀ j j' t o, j < M → j' < M → inc lo hi j t o → inc lo hi j' t o → j = j') (hR : gfR n N M lo hi w h) (hp : ∀ j, j < M → 1 ≤ p j ∧ p j ≤ 1000000) (hi32 : i < 32) (hD : isD N M lo hi (fun _ => True) p (fun t => S t = true) 1000000000 d) (K : MI) (J : MJ) (e24 : K 44 24 = nI w) (e25 : K 44 25 = nI h) (hpr : ∀ K' : MI, (∀ a, a ≠ 65 → a ≠ 66 → a ≠ 67 → K' a = K a) → ∀ j, j < M → fX10_price n (nI j) K' J = some (nI (p j), K', J)) (h66 : ∀ x, x < N → K 66 x = bi (S x)) {l : List (Nat × Nat)} {H : Nat → Nat → Bool} (hw : wlk M lo hi p d S t l) (ht : t < N) (hl : l.length ≤ N) (hW : wyR K H) (hok : okA M H i (l.map (fun x => x.2))) : ∃ K', fX10_leadTo n (nI i) (nI t) K J = some (K', J) ∧ wyR K' (addA H i (l.map (fun x => x.2))) ∧ (∀ x, x < N → K' 66 x = bi (S x || decide (x ∈ l.map (fun x => x.1)))) ∧ ∀ a, a ≠ 62 → a ≠ 63 → a ≠ 65 → a ≠ 66 → a ≠ 67 → K' a = K a := by
  obtain ⟨K1, a1, a2, a3⟩ := findFar_ok n hn hN hM hg hR hp K J e24 e25 (fun K' hK' => hpr K' (fun a q1 _ _ => hK' a q1)) h66 hD
  obtain ⟨K2, b1, b2', b3, b4⟩ := lt9_ok n hn (i := i) hN hM hg hu hR hp hD.2.1 K1 J (by rw [a2 44 (by decide)]; exact e24) (by rw [a2 44 (by decide)]; exact e25) (fun K' hK' => hpr K' (fun a q1 q2 q3 => by rw [hK' a q1 q2 q3]; exact a2 a q1)) a3 l t [] (fun _ => false) K1 n hw ht (by omega) (by rw [List.length_nil]; omega) (fun m hm => absurd hm (Nat.not_lt_zero _)) (fun x hx => by rw [a2 66 (by decide), h66 x hx, Bool.or_false]) (fun x _ hv => by cases hv) (fun _ _ _ => rfl)
  have hlen : (l.map (fun x => x.2)).length = l.length := List.length_map _
  rw [List.length_nil, Nat.zero_add] at b1 b2'
  rw [List.nil_append] at b2'
  have e2 : ∀ a, a ≠ 65 → a ≠ 66 → a ≠ 67 → K2 a = K a := fun a q1 q2 q3 => by rw [b4 a q2 q3]; exact a2 a q1
  obtain ⟨K3, c1, c2, c3⟩ := lt80_ok n hM hi32 J (l.map (fun x => x.2)) 0 H K2 n (by rw [hlen]; omega) (by rw [hlen]; omega) hok (fun m hm => by rw [Nat.zero_add]; exact b2' m (by rw [hlen] at hm; exact hm)) (by
    unfold wyR
    rw [e2 62 (by decide) (by decide) (by decide), e2 63 (by decide) (by decide) (by decide)]
    exact hW)
  rw [Nat.zero_add, hlen] at c1
  refine ⟨K3, ?_, c2, fun x hx => ?_, fun a q1 q2 q3 q4 q5 => by rw [c3 a q1 q2]; exact e2 a q3 q4 q5⟩
  · unfold fX10_leadTo
    rw [a1]
    simp only [Option.bind_some]
    have b1' : lX10_leadTo_9 n n (nI i) 0 (nI t) K1 J = lX10_leadTo_80 n n (nI i) (nI l.length) 0 K2 J := b1
    rw [b1']
    exact c1
  · rw [c3 66 (by decide) (by decide), b3 x hx, Bool.or_false]
