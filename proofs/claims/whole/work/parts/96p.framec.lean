/-! frames: bytes in rows; the class writes -/
def at0 : List Nat → Nat → Nat
  | [], _ => 0
  | a :: _, 0 => a
  | _ :: l, n + 1 => at0 l n
theorem at0_l : ∀ (l r : List Nat) (j : Nat), j < l.length → at0 (l ++ r) j = at0 l j := by
  intro l
  induction l with
  | nil => intro r j h; exact absurd h (Nat.not_lt_zero _)
  | cons a l ih =>
    intro r j h
    cases j with
    | zero => rfl
    | succ j => exact ih r j (Nat.lt_of_succ_lt_succ h)
theorem at0_r : ∀ (l r : List Nat) (j : Nat), at0 (l ++ r) (l.length + j) = at0 r j := by
  intro l
  induction l with
  | nil => intro r j; rw [List.nil_append, List.length_nil, Nat.zero_add]
  | cons a l ih =>
    intro r j
    rw [List.length_cons, show l.length + 1 + j = (l.length + j) + 1 by omega]
    exact ih r j
theorem at0_end (l : List Nat) (v : Nat) : at0 (l ++ [v]) l.length = v := at0_r l [v] 0
theorem len_1 (l : List Nat) (v : Nat) : (l ++ [v]).length = l.length + 1 := by rw [List.length_append]; rfl
def wmem (B : MI) (l : List Nat) : MI := fun a b => if a = 35 ∧ b < l.length then nI (at0 l b) else if a = 34 ∧ b = 1 then nI l.length else B a b
theorem wmem_at {B : MI} {l : List Nat} {a : Nat} (h1 : a ≠ 34) (h2 : a ≠ 35) : wmem B l a = B a := by
  funext b
  unfold wmem
  rw [if_neg (fun z => h2 z.1), if_neg (fun z => h1 z.1)]
theorem wmem_size (B : MI) (l : List Nat) : wmem B l 34 1 = nI l.length := by
  unfold wmem
  rw [if_neg (fun z => absurd z.1 (by decide)), if_pos ⟨rfl, rfl⟩]
theorem wmem_35 {B : MI} {l : List Nat} {b : Nat} (h : b < l.length) : wmem B l 35 b = nI (at0 l b) := if_pos ⟨rfl, h⟩
theorem wmem_put (B : MI) (l : List Nat) (v : Nat) : upM (upM (wmem B l) 35 l.length (nI v)) 34 1 (nI (l.length + 1)) = wmem B (l ++ [v]) := by
  funext a b
  rw [upM_get, upM_get]
  unfold wmem
  rw [len_1]
  by_cases h34 : a = 34
  · subst h34
    by_cases hb : b = 1
    · simp [hb]
    · simp [hb]
  · by_cases h35 : a = 35
    · subst h35
      by_cases hb : b = l.length
      · rw [if_neg (by decide), if_pos rfl, if_pos hb, if_pos ⟨rfl, by omega⟩, hb, at0_end]
      · by_cases hlt : b < l.length
        · rw [if_neg (by decide), if_pos rfl, if_neg hb, if_pos ⟨rfl, hlt⟩, if_pos ⟨rfl, by omega⟩, at0_l _ _ _ hlt]
        · rw [if_neg (by decide), if_pos rfl, if_neg hb, if_neg (fun z => hlt z.2), if_neg (fun z => absurd z.1 (by decide)), if_neg (fun z => by omega), if_neg (fun z => absurd z.1 (by decide))]
    · simp [h34, h35]
theorem wmem_up {B : MI} {l : List Nat} {k j : Nat} {v : Int32} (h1 : k ≠ 34) (h2 : k ≠ 35) : upM (wmem B l) k j v = wmem (upM B k j v) l := by
  funext a b
  rw [upM_get]
  unfold wmem
  rw [upM_get]
  by_cases ha : a = k
  · subst ha
    simp [h1, h2]
  · simp [ha]
theorem put_w (n : Nat) {l : List Nat} (h : l.length < 324) (v : Nat) (B : MI) (J : MJ) : fX1_put n (nI v) (wmem B l) J = some (wmem B (l ++ [v]), J) := by
  unfold fX1_put
  rw [wmem_size, if_neg (show ¬ (324 : Int32) ≤ nI l.length from nI_ge (b := 324) h (by decide)), if_pos (inb_nI h (by decide)), clampI (by omega)]
  simp only [lt]
  rw [upM_ne 34 (by decide), wmem_size, nI_1, wmem_put]
theorem and255 (k : Nat) : nI k &&& 255 = nI (k % 256) := by
  rw [show (255 : Int32) = nI 255 from rfl, nx_and]
  congr 1
  exact Nat.and_two_pow_sub_one_eq_mod k 8
theorem ush8 {b : Nat} (h : b < 65536) : ushrI (nI b) 8 = nI (b / 256) := by
  have := nx_ush (j := 8) h (by decide)
  rw [Nat.shiftRight_eq_div_pow] at this
  exact this
theorem ssh8 {b : Nat} (h : b < 65536) : (nI b >>> ((8 : Int32) &&& 31)) &&& 255 = nI (b / 256) := by
  apply b_ext
  intro i hi
  rw [b_and, b_sshr8 _ hi, b_255, bt_n hi]
  have e : (b / 256).testBit i = b.testBit (8 + i) := by
    rw [show (256 : Nat) = 2 ^ 8 from rfl, Nat.testBit_div_two_pow]
    congr 1
    omega
  rw [e]
  by_cases h8 : i < 8
  · rw [if_pos (by omega), bt_n (by omega), decide_eq_true h8, Bool.and_true]
  · rw [decide_eq_false h8, Bool.and_false]
    exact (Nat.testBit_lt_two_pow (Nat.lt_of_lt_of_le h (show 2 ^ 16 ≤ 2 ^ (8 + i) from Nat.pow_le_pow_right (by decide) (by omega)))).symm
def tailB (srt b : Nat) : List Nat := if srt = 2 then [b % 256, b / 256] else []
def lst (i srt k : Nat) (ℓ : Nat → Nat) (b : Nat) : List Nat := [i, srt, k] ++ (List.range k).map ℓ ++ tailB srt b
theorem lst_len (i srt k : Nat) (ℓ : Nat → Nat) (b : Nat) : (lst i srt k ℓ b).length = 3 + k + if srt = 2 then 2 else 0 := by
  unfold lst tailB
  by_cases h : srt = 2
  · simp [h]; omega
  · simp [h]; omega
theorem rng_1 (l : List Nat) (ℓ : Nat → Nat) (j : Nat) : l ++ (List.range j).map ℓ ++ [ℓ j] = l ++ (List.range (j + 1)).map ℓ := by
  rw [List.range_succ, List.map_append, List.append_assoc]
  rfl
theorem rng_len (l : List Nat) (ℓ : Nat → Nat) (j : Nat) : (l ++ (List.range j).map ℓ).length = l.length + j := by
  rw [List.length_append, List.length_map, List.length_range]
theorem wt81 (n : Nat) {i k b : Nat} (hi : i < 32) (hk : k ≤ 4) (hb : b < 65536) (B : MI) (J : MJ) {ℓ : Nat → Nat} (h12 : B 12 i = nI k) (h14 : ∀ j, j < k → B 14 (4 * i + j) = nI (ℓ j)) (h13 : B 13 i = nI b) (l : List Nat) (hl : l.length + k + 2 ≤ 324) : ∀ q j, j ≤ k → k < q + j → lX1_writeThing_81 n q (nI i) (nI j) (wmem B (l ++ (List.range j).map ℓ)) J = some (wmem B (l ++ (List.range k).map ℓ ++ [b % 256, b / 256]), J) := by
  intro q
  induction q with
  | zero => intro j h1 h2; omega
  | succ q ih =>
    intro j h1 h2
    have e : ∀ M, lX1_writeThing_81 n (q + 1) (nI i) (nI j) M J = fX1_writeThing_81 n (lX1_writeThing_81 n q) (nI i) (nI j) M J := fun _ => rfl
    have ii : inb (nI i) 32 = true := inb_nI hi (by decide)
    have hlen := rng_len l ℓ j
    rw [e]
    unfold fX1_writeThing_81
    rw [clampI (by omega), wmem_at (by decide) (by decide), wmem_at (by decide) (by decide), h12, h13]
    simp only [ii, if_true]
    by_cases hj : j = k
    · subst hj
      rw [if_pos (Int32.le_refl _), and255, put_w n (by omega)]
      simp only [Option.bind_some]
      rw [wmem_at (by decide) (by decide), h13, ush8 hb, put_w n (by rw [len_1]; omega)]
      simp only [Option.bind_some]
      rw [List.append_assoc (l ++ List.map ℓ (List.range j))]
      rfl
    · have e4 : nI i * 4 + nI j = nI (4 * i + j) := by rw [show (4 : Int32) = nI 4 from rfl, pk_mul, nI_add, Nat.mul_comm]
      have hlet : fX7_letter n (nI i) (nI j) (wmem B (l ++ (List.range j).map ℓ)) J = some (nI (ℓ j), wmem B (l ++ (List.range j).map ℓ), J) := by
        unfold fX7_letter
        rw [if_pos ii, clampI (by omega), wmem_at (by decide) (by decide), h12, if_neg (nI_ge (by omega) (by omega)), e4, if_pos (inb_nI (by omega) (by decide)), clampI (by omega), wmem_at (by decide) (by decide), h14 j (by omega)]
      rw [if_neg (nI_ge (by omega) (by omega)), hlet]
      simp only [Option.bind_some]
      rw [put_w n (by omega)]
      simp only [Option.bind_some]
      rw [rng_1, nI_1]
      exact ih (j + 1) (by omega) (by omega)
theorem wt_ok (n : Nat) (hn : 2400 < n) {i srt k b : Nat} (hi : i < 32) (hs : srt < 3) (hk : k ≤ 4) (hb : b < 65536) (B : MI) (J : MJ) {ℓ : Nat → Nat} (h2 : B 2 i = nI srt) (h0 : srt = 0 → k = 0) (h1 : srt = 1 → k = 1 ∧ B 3 i = nI (ℓ 0)) (hg : srt = 2 → B 12 i = nI k ∧ (∀ j, j < k → B 14 (4 * i + j) = nI (ℓ j)) ∧ B 13 i = nI b) (l : List Nat) (hl : l.length + (lst i srt k ℓ b).length ≤ 324) : fX1_writeThing n (nI i) (wmem B l) J = some (wmem (upM B 37 i (nI (l.length + 3))) (l ++ lst i srt k ℓ b), J) := by
  have ii : inb (nI i) 32 = true := inb_nI hi (by decide)
  rw [lst_len] at hl
  unfold fX1_writeThing
  rw [if_pos ii]
  simp only [lt]
  rw [clampI (by omega), wmem_at (by decide) (by decide), h2, put_w n (by omega)]
  simp only [Option.bind_some]
  rw [put_w n (by rw [len_1]; omega)]
  simp only [Option.bind_some, ii, if_true]
  rw [wmem_size, len_1, len_1, nI_1, wmem_up (by decide) (by decide), show l.length + 1 + 1 + 1 = l.length + 3 by omega]
  have hc : srt = 0 ∨ srt = 1 ∨ srt = 2 := by omega
  rcases hc with rfl | rfl | rfl
  · obtain rfl := h0 rfl
    rw [if_pos (by decide), show (0 : Int32) = nI 0 from rfl, put_w n (by rw [len_1, len_1]; omega)]
    simp [lst, tailB]
  · obtain ⟨rfl, h3⟩ := h1 rfl
    rw [if_neg (by decide), if_pos (by decide), show (1 : Int32) = nI 1 from rfl, put_w n (by rw [len_1, len_1]; omega)]
    simp only [Option.bind_some]
    rw [wmem_at (by decide) (by decide), upM_ne 3 (by decide), h3, put_w n (by rw [len_1, len_1, len_1]; omega)]
    simp [lst, tailB]
  · obtain ⟨h12, h14, h13⟩ := hg rfl
    rw [if_neg (by decide), if_neg (by decide), wmem_at (by decide) (by decide), upM_ne 12 (by decide), h12, put_w n (by rw [len_1, len_1]; omega)]
    simp only [Option.bind_some]
    have := wt81 n hi hk hb (upM B 37 i (nI (l.length + 3))) J (ℓ := ℓ) (by rw [upM_ne 12 (by decide)]; exact h12) (fun j hj => by rw [upM_ne 14 (by decide)]; exact h14 j hj) (by rw [upM_ne 13 (by decide)]; exact h13) (l ++ [i] ++ [2] ++ [k]) (by rw [len_1, len_1, len_1]; rw [if_pos rfl] at hl; omega) n 0 (Nat.zero_le _) (by omega)
    rw [List.range_zero, List.map_nil, List.append_nil] at this
    refine this.trans ?_
    simp [lst, tailB]
/-- the things of a tile, one behind another -/
def tlL (P : Nat → Nat → Bool) (ls : Nat → List Nat) (t : Nat) : Nat → List Nat
  | 0 => []
  | k + 1 => if P t k = true then tlL P ls t k ++ ls k else tlL P ls t k
theorem tlL_mono (P : Nat → Nat → Bool) (ls : Nat → List Nat) (t : Nat) {a : Nat} : ∀ k, a ≤ k → (tlL P ls t a).length ≤ (tlL P ls t k).length := by
  intro k
  induction k with
  | zero => intro h; rw [show a = 0 by omega]; exact Nat.le_refl _
  | succ k ih =>
    intro h
    by_cases e : a = k + 1
    · rw [e]; exact Nat.le_refl _
    · have := ih (by omega)
      show _ ≤ (if P t k = true then tlL P ls t k ++ ls k else tlL P ls t k).length
      split
      · rw [List.length_append]; omega
      · exact this
def sg (f : Nat → Int32) : Nat → Int32
  | 0 => 0
  | k + 1 => sg f k + f k
/-- the sum of a row's bytes -/
def smL (l : List Nat) : Nat := (((255 : Int32) - sg (fun j => nI (at0 l j)) l.length) &&& 255).toNatClampNeg
theorem smL_eq (l : List Nat) : ((255 : Int32) - sg (fun j => nI (at0 l j)) l.length) &&& 255 = nI (smL l) ∧ smL l < 256 := by
  unfold smL
  obtain ⟨k, -, hk⟩ := wb_of32 ((255 : Int32) - sg (fun j => nI (at0 l j)) l.length)
  rw [hk, and255, nI_clamp (by omega)]
  exact ⟨rfl, by omega⟩
theorem sumC_w (n : Nat) (B : MI) (J : MJ) (pre l : List Nat) (h : pre.length + l.length ≤ 324) : ∀ q j, j ≤ l.length → l.length < q + j → lX1_sumOf_5 n q (nI (pre.length + l.length)) (sg (fun j => nI (at0 l j)) j) (nI (pre.length + j)) (wmem B (pre ++ l)) J = some (nI (smL l), wmem B (pre ++ l), J) := by
  intro q
  induction q with
  | zero => intro j h1 h2; omega
  | succ q ih =>
    intro j h1 h2
    have e : ∀ a b M, lX1_sumOf_5 n (q + 1) (nI (pre.length + l.length)) a b M J = fX1_sumOf_5 n (lX1_sumOf_5 n q) (nI (pre.length + l.length)) a b M J := fun _ _ _ => rfl
    rw [e]
    unfold fX1_sumOf_5
    by_cases hj : j = l.length
    · rw [if_pos (nI_le (by omega) (by omega)), hj, (smL_eq l).1]
    · rw [if_neg (nI_ge (by omega) (by omega)), if_pos (inb_nI (by omega) (by decide)), clampI (by omega), wmem_35 (by rw [List.length_append]; omega), at0_r, nI_1]
      simp only [lt]
      exact ih (j + 1) (by omega) (by omega)
/-- what a thing's bytes are made of, class -/
def fdC (c : Nat) (P : Nat → Bool) (srt kk : Nat → Nat) (ℓ : Nat → Nat → Nat) (bb : Nat → Nat) (I : MI) : Prop := ∀ i, i < c → P i = true → srt i < 3 ∧ kk i ≤ 4 ∧ bb i < 65536 ∧ I 2 i = nI (srt i) ∧ (srt i = 0 → kk i = 0) ∧ (srt i = 1 → kk i = 1 ∧ I 3 i = nI (ℓ i 0)) ∧ (srt i = 2 → I 12 i = nI (kk i) ∧ (∀ j, j < kk i → I 14 (4 * i + j) = nI (ℓ i j)) ∧ I 13 i = nI (bb i))
def lsT (srt kk : Nat → Nat) (ℓ : Nat → Nat → Nat) (bb : Nat → Nat) (i : Nat) : List Nat := lst i (srt i) (kk i) (ℓ i) (bb i)
def inT (P : Nat → Bool) (τ : Nat → Nat) (t i : Nat) : Bool := P i && decide (τ i = t)
theorem inT_iff {P : Nat → Bool} {τ : Nat → Nat} {t i : Nat} : inT P τ t i = true ↔ P i = true ∧ τ i = t := by
  unfold inT
  simp
theorem w31_ok (n : Nat) (hn : 2400 < n) {k8 : Int32 → MI → MJ → Option M2} {c t : Nat} (hc : c ≤ 32) (ht : t < 36) {P : Nat → Bool} {τ : Nat → Nat} {srt kk : Nat → Nat} {ℓ : Nat → Nat → Nat} {bb : Nat → Nat} (I : MI) (J : MJ) (hfd : fdC c P srt kk ℓ bb I) (h22 : I 22 1 = nI (ct_cnt P c)) (h23 : ∀ i, i < c → P i = true → I 23 (ct_cnt P i) = nI i) (h24 : ∀ i, i < c → P i = true → I 24 i = nI (τ i) ∧ τ i < 36) (pre : List Nat) (hl : pre.length + (tlL (inT P τ) (lsT srt kk ℓ bb) t c).length + 1 ≤ 324) : ∀ d k q B, k + d = c → d < q → (∀ a, a ≠ 36 → a ≠ 37 → B a = I a) → B 36 t = nI pre.length → ∃ B', lX1_write_31 n k8 q (nI t) (nI (ct_cnt P k)) (wmem B (pre ++ tlL (inT P τ) (lsT srt kk ℓ bb) t k)) J = k8 (nI (t + 1)) (wmem B' (pre ++ (tlL (inT P τ) (lsT srt kk ℓ bb) t c ++ [smL (tlL (inT P τ) (lsT srt kk ℓ bb) t c)]))) J ∧ (∀ a, a ≠ 37 → B' a = B a) ∧ ∀ i, B' 37 i = if k ≤ i ∧ i < c ∧ inT P τ t i = true then nI (pre.length + (tlL (inT P τ) (lsT srt kk ℓ bb) t i).length + 3) else B 37 i := by
  have hTc := ct_cnt_le P c
  intro d
  induction d with
  | zero =>
    intro k q B hk hq hB h36
    obtain ⟨q, rfl⟩ : ∃ z, q = z + 1 := ⟨q - 1, by omega⟩
    obtain rfl : k = c := by omega
    generalize hL : tlL (inT P τ) (lsT srt kk ℓ bb) t k = L at *
    have e : ∀ b M, lX1_write_31 n k8 (q + 1) (nI t) b M J = fX1_write_31 n k8 (lX1_write_31 n k8 q) (nI t) b M J := fun _ _ => rfl
    rw [e]
    unfold fX1_write_31
    have hsum : fX1_sumOf n (nI pre.length) (nI (pre.length + L.length)) (wmem B (pre ++ L)) J = some (nI (smL L), wmem B (pre ++ L), J) := sumC_w n B J pre L (by omega) n 0 (Nat.zero_le _) (by omega)
    rw [wmem_at (by decide) (by decide), hB 22 (by decide) (by decide), h22, if_pos (Int32.le_refl _), if_pos (inb_nI (by omega) (by decide)), clampI (by omega), wmem_at (by decide) (by decide), h36, wmem_size, List.length_append, hsum]
    simp only [Option.bind_some]
    rw [put_w n (by rw [List.length_append]; omega), nI_1, List.append_assoc]
    exact ⟨B, rfl, fun _ _ => rfl, fun i => by rw [if_neg (fun z => by omega)]⟩
  | succ d ih =>
    intro k q B hk hq hB h36
    have hs : ct_cnt P (k + 1) = if P k = true then ct_cnt P k + 1 else ct_cnt P k := rfl
    have htl : tlL (inT P τ) (lsT srt kk ℓ bb) t (k + 1) = if inT P τ t k = true then tlL (inT P τ) (lsT srt kk ℓ bb) t k ++ lsT srt kk ℓ bb k else tlL (inT P τ) (lsT srt kk ℓ bb) t k := rfl
    by_cases hP : P k = true
    · obtain ⟨q, rfl⟩ : ∃ z, q = z + 1 := ⟨q - 1, by omega⟩
      have e : ∀ b M, lX1_write_31 n k8 (q + 1) (nI t) b M J = fX1_write_31 n k8 (lX1_write_31 n k8 q) (nI t) b M J := fun _ _ => rfl
      rw [if_pos hP] at hs
      have hm := ct_cnt_mono P (a := k + 1) c (by omega)
      obtain ⟨e24, hτ⟩ := h24 k (by omega) hP
      rw [e]
      unfold fX1_write_31 fX1_write_72
      rw [wmem_at (by decide) (by decide), hB 22 (by decide) (by decide), h22, if_neg (nI_ge (by omega) (by omega)), if_pos (inb_nI (by omega) (by decide)), clampI (by omega), wmem_at (by decide) (by decide), hB 23 (by decide) (by decide), h23 k (by omega) hP]
      simp only [lt]
      rw [if_pos (inb_nI (by omega) (by decide)), clampI (by omega), wmem_at (by decide) (by decide), hB 24 (by decide) (by decide), e24, nI_1]
      by_cases hin : τ k = t
      · have hT : inT P τ t k = true := inT_iff.mpr ⟨hP, hin⟩
        rw [if_pos hT] at htl
        have hmono := tlL_mono (inT P τ) (lsT srt kk ℓ bb) t (a := k + 1) c (by omega)
        rw [htl, List.length_append] at hmono
        obtain ⟨f1, f2, f3, f4, f5, f6, f7⟩ := hfd k (by omega) hP
        have hw := wt_ok n hn (show k < 32 by omega) f1 f2 f3 B J (ℓ := ℓ k) (by rw [hB 2 (by decide) (by decide)]; exact f4) f5 (by rw [hB 3 (by decide) (by decide)]; exact f6) (by rw [hB 12 (by decide) (by decide), hB 13 (by decide) (by decide), hB 14 (by decide) (by decide)]; exact f7) (pre ++ tlL (inT P τ) (lsT srt kk ℓ bb) t k) (by
          rw [List.length_append]
          show _ + (lsT srt kk ℓ bb k).length ≤ 324
          omega)
        rw [if_pos (by rw [hin]), hw]
        simp only [Option.bind_some]
        obtain ⟨B', g1, g2, g3⟩ := ih (k + 1) q (upM B 37 k (nI ((pre ++ tlL (inT P τ) (lsT srt kk ℓ bb) t k).length + 3))) (by omega) (by omega) (fun a q1 q2 => by rw [upM_ne a q2]; exact hB a q1 q2) (by rw [upM_ne 36 (by decide)]; exact h36)
        rw [htl, hs, ← List.append_assoc] at g1
        refine ⟨B', g1, fun a ha => by rw [g2 a ha, upM_ne a ha], fun i => ?_⟩
        rw [g3 i, upM_get, if_pos rfl]
        by_cases hik : i = k
        · rw [if_neg (fun z => by omega), if_pos hik, if_pos ⟨by omega, by omega, by rw [hik]; exact hT⟩, hik, List.length_append]
        · have : (k + 1 ≤ i) ↔ k ≤ i := by omega
          rw [if_neg hik]
          simp only [this]
      · have hT : ¬ inT P τ t k = true := fun z => hin (inT_iff.mp z).2
        rw [if_neg hT] at htl
        rw [if_neg (fun z => hin ((nI_eq (by omega) (by omega)).mp z))]
        obtain ⟨B', g1, g2, g3⟩ := ih (k + 1) q B (by omega) (by omega) hB h36
        rw [htl, hs] at g1
        refine ⟨B', g1, g2, fun i => ?_⟩
        rw [g3 i]
        by_cases hik : i = k
        · rw [if_neg (fun z => by omega), if_neg (fun z => hT (by rw [← hik]; exact z.2.2))]
        · have : (k + 1 ≤ i) ↔ k ≤ i := by omega
          simp only [this]
    · rw [if_neg hP] at hs
      have hT : ¬ inT P τ t k = true := fun z => hP (inT_iff.mp z).1
      rw [if_neg hT] at htl
      obtain ⟨B', g1, g2, g3⟩ := ih (k + 1) q B (by omega) (by omega) hB h36
      rw [htl, hs] at g1
      refine ⟨B', g1, g2, fun i => ?_⟩
      rw [g3 i]
      by_cases hik : i = k
      · rw [if_neg (fun z => by omega), if_neg (fun z => hT (by rw [← hik]; exact z.2.2))]
      · have : (k + 1 ≤ i) ↔ k ≤ i := by omega
        simp only [this]
/-- all tiles before one -/
def ptL (rw' : Nat → List Nat) : Nat → List Nat
  | 0 => []
  | t + 1 => ptL rw' t ++ rw' t
theorem ptL_mono (r : Nat → List Nat) {a : Nat} : ∀ k, a ≤ k → (ptL r a).length ≤ (ptL r k).length := by
  intro k
  induction k with
  | zero => intro h; rw [show a = 0 by omega]; exact Nat.le_refl _
  | succ k ih =>
    intro h
    by_cases e : a = k + 1
    · rw [e]; exact Nat.le_refl _
    · have := ih (by omega)
      show _ ≤ (ptL r k ++ r k).length
      rw [List.length_append]; omega
theorem ptL_at (r : Nat → List Nat) {t : Nat} : ∀ T, t < T → ∃ x, ptL r T = ptL r t ++ (r t ++ x) := by
  intro T
  induction T with
  | zero => intro h; omega
  | succ T ih =>
    intro h
    by_cases e : t = T
    · subst e
      exact ⟨[], by rw [List.append_nil]; rfl⟩
    · obtain ⟨x, hx⟩ := ih (by omega)
      refine ⟨x ++ r T, ?_⟩
      show ptL r T ++ r T = _
      rw [hx, List.append_assoc, List.append_assoc]
