/-! ways: prices; a wire taken off; the first tile of a tree -/
def prH (ps : Nat → Nat) (kc : Nat) (H : Nat → Nat → Bool) (j : Nat) : Nat := (1 + ps j) * (1 + (ct_cnt (fun i => H i j) 32 + 1 - kc))
theorem prH_b {ps : Nat → Nat} {kc : Nat} {H : Nat → Nat → Bool} {j : Nat} (hps : ps j ≤ 1280) : 1 ≤ prH ps kc H j ∧ prH ps kc H j ≤ 1000000 := by
  unfold prH
  have hc := ct_cnt_le (fun i => H i j) 32
  generalize ct_cnt (fun i => H i j) 32 = c at *
  refine ⟨Nat.mul_pos (by omega) (by omega), ?_⟩
  have h1 : 1 + ps j ≤ 1281 := by omega
  have h2 : 1 + (c + 1 - kc) ≤ 34 := by omega
  have := Nat.mul_le_mul h1 h2
  omega
theorem over_eq {c kc : Nat} (hc : c ≤ 32) (hk : kc ≤ 4) : nI (c + 1) - nI kc = nI (c + 1 - kc) ∨ (c + 1 - kc = 0 ∧ ¬ (0 : Int32) < nI (c + 1) - nI kc) := by
  by_cases h : kc ≤ c + 1
  · exact Or.inl (pk_sub h)
  · refine Or.inr ⟨by omega, fun z => ?_⟩
    rw [Int32.lt_iff_toInt_lt, pk_sub_toInt (by omega) (by omega)] at z
    rw [show (0 : Int32).toInt = 0 from rfl] at z
    omega
theorem price_ok (n : Nat) {j kc : Nat} {ps : Nat → Nat} {H : Nat → Nat → Bool} (hj : j < 60) (hk : kc ≤ 4) (K : MI) (J : MJ) (h63 : K 63 j = nI (ct_cnt (fun i => H i j) 32)) (h64 : K 64 j = nI (ps j)) (h27 : K 44 27 = nI kc) : fX10_price n (nI j) K J = some (nI (prH ps kc H j), K, J) := by
  have ij : inb (nI j) 60 = true := inb_nI hj (by decide)
  have hc := ct_cnt_le (fun i => H i j) 32
  unfold fX10_price prH
  rw [clampI (by omega), h63, h64, h27, nI_1]
  simp only [ij, if_true, lt]
  generalize ct_cnt (fun i => H i j) 32 = c at *
  rw [show (1 : Int32) = nI 1 from rfl, nI_add]
  rcases over_eq (kc := kc) hc hk with q | ⟨q1, q2⟩
  · rw [q]
    by_cases z : c + 1 - kc = 0
    · rw [z, if_pos (by decide), show (0 : Int32) = nI 0 from rfl, nI_add, pk_mul]
    · rw [if_neg (nI_nle (by omega) (by omega)), nI_add, pk_mul]
  · rw [q1, if_pos (Int32.not_lt.mp q2), show (0 : Int32) = nI 0 from rfl, nI_add, pk_mul]
theorem setP_ok (n : Nat) (hn : 2400 < n) {M kc : Nat} {ps : Nat → Nat} {H : Nat → Nat → Bool} (hM : M ≤ 60) (hk : kc ≤ 4) (I : MI) (J : MJ) (h16 : I 16 2 = nI M) (h0 : I 16 0 = nI kc) (h29 : ∀ j, j < 60 → I 29 j = nI (ct_cnt (fun i => H i j) 32)) (h30 : ∀ j, j < 60 → I 30 j = nI (ps j)) : ∃ I', fX8_setPrices n I J = some (I', J) ∧ (∀ a, a ≠ 32 → I' a = I a) ∧ ∀ j, j < M → I' 32 j = nI (prH ps kc H j) := by
  have l : ∀ q k I1, k ≤ M → M < q + k → (∀ a, a ≠ 32 → I1 a = I a) → (∀ j, j < k → I1 32 j = nI (prH ps kc H j)) → ∃ I', lX8_setPrices_2 n q (nI k) I1 J = some (I', J) ∧ (∀ a, a ≠ 32 → I' a = I a) ∧ ∀ j, j < M → I' 32 j = nI (prH ps kc H j) := by
    intro q
    induction q with
    | zero => intro k I1 h1 h2; omega
    | succ q ih =>
      intro k I1 h1 h2 f1 f2
      have e : lX8_setPrices_2 n (q + 1) (nI k) I1 J = fX8_setPrices_2 n (lX8_setPrices_2 n q) (nI k) I1 J := rfl
      have hc := ct_cnt_le (fun i => H i k) 32
      rw [e]
      unfold fX8_setPrices_2
      rw [f1 16 (by decide), h16, h0]
      by_cases hkM : k = M
      · subst hkM
        rw [if_pos (Int32.le_refl _)]
        exact ⟨I1, rfl, f1, f2⟩
      have ik : inb (nI k) 60 = true := inb_nI (by omega) (by decide)
      rw [if_neg (nI_ge (by omega) (by omega)), clampI (by omega), f1 29 (by decide), f1 30 (by decide), h29 k (by omega), h30 k (by omega), nI_1, nI_1]
      simp only [ik, if_true, lt]
      have val : ((1 : Int32) + nI (ps k)) * (1 + (if (0 : Int32) < nI (ct_cnt (fun i => H i k) 32 + 1) - nI kc then nI (ct_cnt (fun i => H i k) 32 + 1) - nI kc else 0)) = nI (prH ps kc H k) := by
        unfold prH
        generalize ct_cnt (fun i => H i k) 32 = c at *
        rw [show (1 : Int32) = nI 1 from rfl, nI_add]
        rcases over_eq (kc := kc) hc hk with q | ⟨q1, q2⟩
        · rw [q]
          by_cases z : c + 1 - kc = 0
          · rw [z, if_neg (by decide), show (0 : Int32) = nI 0 from rfl, nI_add, pk_mul]
          · rw [if_pos (Int32.not_le.mp (nI_nle (by omega) (by omega))), nI_add, pk_mul]
        · rw [q1, if_neg q2, show (0 : Int32) = nI 0 from rfl, nI_add, pk_mul]
      rw [val]
      refine ih (k + 1) _ (by omega) (by omega) (fun a ha => by rw [upM_ne a ha]; exact f1 a ha) (fun j hj => ?_)
      rw [upM_get, if_pos rfl]
      by_cases q1 : j = k
      · rw [if_pos q1, q1]
      · rw [if_neg q1]; exact f2 j (by omega)
  exact l n 0 I (Nat.zero_le _) (by omega) (fun _ _ => rfl) (fun j hj => absurd hj (Nat.not_lt_zero _))
theorem plant_ok (n : Nat) (hn : 2400 < n) {r : Nat} (hr : r < 36) (I : MI) (J : MJ) : ∃ I', fX8_plantTree n (nI r) I J = some (I', J) ∧ (∀ a, a ≠ 33 → I' a = I a) ∧ ∀ t, t < 36 → I' 33 t = nI (if t = r then 0 else 536870912) := by
  unfold fX8_plantTree
  rw [fill_eq n 33 36 _ I J (by decide) (by decide) aln_33 (by omega)]
  simp only [Option.bind_some]
  rw [if_pos (inb_nI hr (by decide)), clampI (by omega)]
  simp only [lt]
  refine ⟨_, rfl, fun a ha => ?_, fun t ht => ?_⟩
  · rw [upM_ne a ha]
    funext b
    exact if_neg (fun z => ha z.1)
  · rw [upM_get, if_pos rfl]
    by_cases q : t = r
    · rw [if_pos q, if_pos q]; rfl
    · rw [if_neg q, if_neg q]
      exact if_pos ⟨rfl, ht⟩
/-! a wire is taken off -/
def offH (H : Nat → Nat → Bool) (i : Nat) : Nat → Nat → Bool := fun a b => if a = i then false else H a b
theorem offH_cnt {H : Nat → Nat → Bool} {i : Nat} (b : Nat) : ∀ c, ct_cnt (fun a => offH H i a b) c + (if i < c ∧ H i b = true then 1 else 0) = ct_cnt (fun a => H a b) c := by
  intro c
  induction c with
  | zero => rw [if_neg (fun z => absurd z.1 (Nat.not_lt_zero _))]; rfl
  | succ c ih =>
    have e1 : ct_cnt (fun a => offH H i a b) (c + 1) = if offH H i c b = true then ct_cnt (fun a => offH H i a b) c + 1 else ct_cnt (fun a => offH H i a b) c := rfl
    have e2 : ct_cnt (fun a => H a b) (c + 1) = if H c b = true then ct_cnt (fun a => H a b) c + 1 else ct_cnt (fun a => H a b) c := rfl
    rw [e1, e2, ← ih]
    generalize ct_cnt (fun a => offH H i a b) c = x
    by_cases hc : c = i
    · subst hc
      have h1 : offH H c c b = false := if_pos rfl
      rw [h1, if_neg (by decide), if_neg (show ¬ (c < c ∧ H c b = true) from fun z => by omega)]
      by_cases hb : H c b = true
      · rw [if_pos ⟨by omega, hb⟩, if_pos hb]
      · rw [if_neg (fun z => hb z.2), if_neg hb]
    · have h1 : offH H i c b = H c b := if_neg hc
      have h2 : (i < c + 1) ↔ i < c := by omega
      rw [h1]
      simp only [h2]
      by_cases hb : H c b = true
      · rw [if_pos hb, if_pos hb]; omega
      · rw [if_neg hb, if_neg hb]
theorem offC_ok (n : Nat) (hn : 2400 < n) {M i : Nat} {H : Nat → Nat → Bool} (hM : M ≤ 60) (hi32 : i < 32) (hH : ∀ j, H i j = true → j < M) (I : MI) (J : MJ) (h16 : I 16 2 = nI M) (hC : wyC I J H) : ∃ I' J', fX8_takeOff n (nI i) I J = some (I', J') ∧ wyC I' J' (offH H i) ∧ (∀ a, a ≠ 29 → I' a = I a) ∧ ∀ a, a ≠ 31 → J' a = J a := by
  have ii : inb (nI i) 32 = true := inb_nI hi32 (by decide)
  have l : ∀ q k I1, k ≤ M → M < q + k → (∀ a, a ≠ 29 → I1 a = I a) → (∀ j, j < 60 → I1 29 j = nI (if j < k then ct_cnt (fun a => offH H i a j) 32 else ct_cnt (fun a => H a j) 32)) → ∃ I' J', lX8_takeOff_2 n q (nI i) (nI k) I1 J = some (I', J') ∧ wyC I' J' (offH H i) ∧ (∀ a, a ≠ 29 → I' a = I a) ∧ ∀ a, a ≠ 31 → J' a = J a := by
    intro q
    induction q with
    | zero => intro k I1 h1 h2; omega
    | succ q ih =>
      intro k I1 h1 h2 f1 f2
      have e : lX8_takeOff_2 n (q + 1) (nI i) (nI k) I1 J = fX8_takeOff_2 n (lX8_takeOff_2 n q) (nI i) (nI k) I1 J := rfl
      rw [e]
      unfold fX8_takeOff_2 fX8_takeOff_33
      rw [f1 16 (by decide), h16]
      by_cases hkM : k = M
      · subst hkM
        rw [if_pos (Int32.le_refl _), if_pos ii, clampI (by omega)]
        simp only [lt]
        refine ⟨I1, _, rfl, ⟨fun j hj => ?_, fun a ha b hb => ?_⟩, f1, fun a ha => ?_⟩
        · rw [f2 j hj]
          by_cases q1 : j < k
          · rw [if_pos q1]
          · rw [if_neg q1]
            have := offH_cnt (H := H) (i := i) j 32
            rw [if_neg (fun z => q1 (hH j z.2)), Nat.add_zero] at this
            rw [this]
        · rw [upN_get, if_pos rfl]
          unfold offH
          by_cases q1 : a = i
          · rw [if_pos q1, if_pos q1, bl_0]
          · rw [if_neg q1, if_neg q1]; exact hC.2 a ha b hb
        · funext b
          rw [upN_get, if_neg ha]
      have hk60 : k < 60 := by omega
      have ik : inb (nI k) 60 = true := inb_nI hk60 (by decide)
      have cnt := offH_cnt (H := H) (i := i) k 32
      rw [if_neg (nI_ge (by omega) (by omega)), if_pos ii, clampI (show i < 2 ^ 31 by omega), hasBit_eq n _ (by omega), hC.2 i hi32 k hk60, nI_1]
      simp only [Option.bind_some]
      by_cases hb : H i k = true
      · rw [if_pos ⟨hi32, hb⟩] at cnt
        rw [b2_t hb, if_neg (by decide)]
        simp only [ik, if_true, lt]
        rw [clampI (show k < 2 ^ 31 by omega), f2 k hk60, if_neg (Nat.lt_irrefl k), ← cnt]
        have e1 : nI (ct_cnt (fun a => offH H i a k) 32 + 1) - 1 = nI (ct_cnt (fun a => offH H i a k) 32) := nI_pred _
        rw [e1]
        refine ih (k + 1) _ (by omega) (by omega) (fun a ha => by rw [upM_ne a ha]; exact f1 a ha) (fun j hj => ?_)
        rw [upM_get, if_pos rfl]
        by_cases q1 : j = k
        · rw [if_pos q1, q1, if_pos (by omega)]
        · have : (j < k + 1) ↔ j < k := by omega
          rw [if_neg q1, f2 j hj]
          simp only [this]
      · rw [if_neg (fun z => hb z.2), Nat.add_zero] at cnt
        rw [b2_f hb, if_pos rfl]
        refine ih (k + 1) I1 (by omega) (by omega) f1 (fun j hj => ?_)
        rw [f2 j hj]
        by_cases q1 : j = k
        · rw [q1, if_neg (Nat.lt_irrefl k), if_pos (by omega), cnt]
        · have : (j < k + 1) ↔ j < k := by omega
          simp only [this]
  exact l n 0 I (Nat.zero_le _) (by omega) (fun _ _ => rfl) (fun j hj => by rw [if_neg (Nat.not_lt_zero _)]; exact hC.1 j hj)
theorem offR_ok (n : Nat) (hn : 2400 < n) {i : Nat} {H : Nat → Nat → Bool} (hi32 : i < 32) (K : MI) (J : MJ) (hW : wyR K H) : ∃ K', fX10_takeOff n (nI i) K J = some (K', J) ∧ wyR K' (offH H i) ∧ ∀ a, a ≠ 62 → a ≠ 63 → K' a = K a := by
  have l : ∀ q k K1, k ≤ 60 → 60 < q + k → (∀ a, a ≠ 62 → a ≠ 63 → K1 a = K a) → (∀ j, j < 60 → K1 63 j = nI (if j < k then ct_cnt (fun a => offH H i a j) 32 else ct_cnt (fun a => H a j) 32)) → (∀ a, a < 32 → ∀ j, j < 60 → K1 62 (60 * a + j) = bi (if a = i ∧ j < k then false else H a j)) → ∃ K', lX10_takeOff_2 n q (nI i) (nI k) K1 J = some (K', J) ∧ wyR K' (offH H i) ∧ ∀ a, a ≠ 62 → a ≠ 63 → K' a = K a := by
    intro q
    induction q with
    | zero => intro k K1 h1 h2; omega
    | succ q ih =>
      intro k K1 h1 h2 f1 f2 f3
      have e : lX10_takeOff_2 n (q + 1) (nI i) (nI k) K1 J = fX10_takeOff_2 n (lX10_takeOff_2 n q) (nI i) (nI k) K1 J := rfl
      rw [e]
      unfold fX10_takeOff_2 fX10_takeOff_32
      by_cases hk : k = 60
      · rw [if_pos (by rw [hk]; decide)]
        refine ⟨K1, rfl, ⟨fun j hj => ?_, fun a ha j hj => ?_⟩, f1⟩
        · rw [f2 j hj, if_pos (by omega)]
        · rw [f3 a ha j hj]
          unfold offH
          by_cases q1 : a = i
          · rw [if_pos ⟨q1, by omega⟩, if_pos q1]
          · rw [if_neg (fun z => q1 z.1), if_neg q1]
      have hk60 : k < 60 := by omega
      have ik : inb (nI k) 60 = true := inb_nI hk60 (by decide)
      have e60 : (60 : Int32) * nI i + nI k = nI (60 * i + k) := by rw [show (60 : Int32) = nI 60 from rfl, pk_mul, nI_add]
      have i19 : inb (nI (60 * i + k)) 1920 = true := inb_nI (by omega) (by decide)
      have cnt := offH_cnt (H := H) (i := i) k 32
      have f3k := f3 i hi32 k hk60
      rw [if_neg (fun z => by omega)] at f3k
      rw [if_neg (show ¬ (60 : Int32) ≤ nI k from nI_ge (b := 60) hk60 (by decide)), e60, nI_1]
      simp only [i19, ik, if_true, lt]
      rw [clampI (show 60 * i + k < 2 ^ 31 by omega), clampI (show k < 2 ^ 31 by omega), f3k]
      have set : ∀ K2 : MI, (∀ a, a ≠ 62 → a ≠ 63 → K2 a = K a) → (∀ j, j < 60 → K2 63 j = nI (if j < k + 1 then ct_cnt (fun a => offH H i a j) 32 else ct_cnt (fun a => H a j) 32)) → K2 62 = K1 62 → ∃ K', lX10_takeOff_2 n q (nI i) (nI (k + 1)) (upM K2 62 (60 * i + k) (bz 0)) J = some (K', J) ∧ wyR K' (offH H i) ∧ ∀ a, a ≠ 62 → a ≠ 63 → K' a = K a := by
        intro K2 g1 g2 g3
        refine ih (k + 1) _ (by omega) (by omega) (fun a q1 q2 => by rw [upM_ne a q1]; exact g1 a q1 q2) (fun j hj => by rw [upM_ne 63 (by decide)]; exact g2 j hj) (fun a ha j hj => ?_)
        rw [upM_get, if_pos rfl, g3]
        by_cases q1 : a = i ∧ j = k
        · rw [if_pos (by rw [q1.1, q1.2]), if_pos ⟨q1.1, by omega⟩]; rfl
        · rw [if_neg (fun z => q1 (by omega)), f3 a ha j hj]
          by_cases q2 : a = i ∧ j < k
          · rw [if_pos q2, if_pos ⟨q2.1, by omega⟩]
          · rw [if_neg q2, if_neg (fun z => by omega)]
      by_cases hb : H i k = true
      · rw [if_pos ⟨hi32, hb⟩] at cnt
        rw [hb, if_neg (by decide), f2 k hk60, if_neg (Nat.lt_irrefl k), ← cnt]
        have e1 : nI (ct_cnt (fun a => offH H i a k) 32 + 1) - 1 = nI (ct_cnt (fun a => offH H i a k) 32) := nI_pred _
        rw [e1]
        refine set _ (fun a q1 q2 => by rw [upM_ne a q2]; exact f1 a q1 q2) (fun j hj => ?_) (upM_ne 62 (by decide))
        rw [upM_get, if_pos rfl]
        by_cases q1 : j = k
        · rw [if_pos q1, q1, if_pos (by omega)]
        · have : (j < k + 1) ↔ j < k := by omega
          rw [if_neg q1, f2 j hj]
          simp only [this]
      · rw [if_neg (fun z => hb z.2), Nat.add_zero] at cnt
        have hb' : H i k = false := by
          cases q1 : H i k with
          | false => rfl
          | true => exact absurd q1 hb
        rw [hb', if_pos (by decide)]
        refine set K1 f1 (fun j hj => ?_) rfl
        rw [f2 j hj]
        by_cases q1 : j = k
        · rw [q1, if_neg (Nat.lt_irrefl k), if_pos (by omega), cnt]
        · have : (j < k + 1) ↔ j < k := by omega
          simp only [this]
  exact l n 0 K (Nat.zero_le _) (by omega) (fun _ _ _ => rfl) (fun j hj => by rw [if_neg (Nat.not_lt_zero _)]; exact hW.1 j hj) (fun a ha j hj => by rw [if_neg (fun z => absurd z.2 (Nat.not_lt_zero _))]; exact hW.2 a ha j hj)
/-- the reference plants its tree -/
theorem tree_ok (n : Nat) (hn : 2400 < n) {N M w h i r : Nat} {lo hi : Nat → Nat} {x2 : Int64} (hN : N ≤ 36) (hR : gfR n N M lo hi w h) (hi32 : i < 32) (hr : r < N) (K : MI) (J : MJ) (e24 : K 44 24 = nI w) (e25 : K 44 25 = nI h) (h61 : K 61 i = nI r) : ∃ K', lX10_leadWire_14 n n (nI i) x2 0 K J = lX10_leadWire_55 n n (nI i) x2 0 K' J ∧ (∀ a, a ≠ 66 → K' a = K a) ∧ ∀ t, t < N → K' 66 t = bi (decide (t = r)) := by
  have l : ∀ q k K1, k ≤ N → N < q + k → (∀ a, a ≠ 66 → K1 a = K a) → (∀ t, t < k → K1 66 t = bi (decide (t = r))) → ∃ K', lX10_leadWire_14 n q (nI i) x2 (nI k) K1 J = lX10_leadWire_55 n n (nI i) x2 0 K' J ∧ (∀ a, a ≠ 66 → K' a = K a) ∧ ∀ t, t < N → K' 66 t = bi (decide (t = r)) := by
    intro q
    induction q with
    | zero => intro k K1 h1 h2; omega
    | succ q ih =>
      intro k K1 h1 h2 f1 f2
      have e : lX10_leadWire_14 n (q + 1) (nI i) x2 (nI k) K1 J = fX10_leadWire_14 n (lX10_leadWire_14 n q) (nI i) x2 (nI k) K1 J := rfl
      obtain ⟨r1, -, -⟩ := hR K1 J (by rw [f1 44 (by decide)]; exact e24) (by rw [f1 44 (by decide)]; exact e25)
      rw [e]
      unfold fX10_leadWire_14 fX10_leadWire_45
      rw [r1]
      simp only [Option.bind_some]
      by_cases hk : k = N
      · subst hk
        rw [if_pos (Int32.le_refl _)]
        exact ⟨K1, rfl, f1, f2⟩
      have ik : inb (nI k) 36 = true := inb_nI (by omega) (by decide)
      rw [if_neg (nI_ge (by omega) (by omega)), if_pos (inb_nI hi32 (by decide)), clampI (show i < 2 ^ 31 by omega), f1 61 (by decide), h61, clampI (show k < 2 ^ 31 by omega), nI_1]
      simp only [ik, if_true, lt]
      have put : ∀ v : Bool, v = decide (k = r) → ∃ K', lX10_leadWire_14 n q (nI i) x2 (nI (k + 1)) (upM K1 66 k (bz (bi v))) J = lX10_leadWire_55 n n (nI i) x2 0 K' J ∧ (∀ a, a ≠ 66 → K' a = K a) ∧ ∀ t, t < N → K' 66 t = bi (decide (t = r)) := by
        intro v hv
        rw [bi_z]
        refine ih (k + 1) _ (by omega) (by omega) (fun a ha => by rw [upM_ne a ha]; exact f1 a ha) (fun t ht => ?_)
        rw [upM_get, if_pos rfl]
        by_cases q1 : t = k
        · rw [if_pos q1, q1, hv]
        · rw [if_neg q1]; exact f2 t (by omega)
      by_cases hkr : k = r
      · rw [if_pos (by rw [hkr])]
        exact put true (decide_eq_true hkr).symm
      · rw [if_neg (fun z => hkr ((nI_eq (by omega) (by omega)).mp z))]
        exact put false (decide_eq_false hkr).symm
  exact l n 0 K (Nat.zero_le _) (by omega) (fun _ _ => rfl) (fun t ht => absurd ht (Nat.not_lt_zero _))
