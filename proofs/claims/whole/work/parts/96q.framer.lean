/-! frames: all tiles of the class; the reference writes -/
abbrev tlO (c : Nat) (P : Nat → Bool) (τ srt kk : Nat → Nat) (ℓ : Nat → Nat → Nat) (bb : Nat → Nat) (t : Nat) : List Nat := tlL (inT P τ) (lsT srt kk ℓ bb) t c
def roT (c : Nat) (P : Nat → Bool) (τ srt kk : Nat → Nat) (ℓ : Nat → Nat → Nat) (bb : Nat → Nat) (t : Nat) : List Nat := tlO c P τ srt kk ℓ bb t ++ [smL (tlO c P τ srt kk ℓ bb t)]
theorem w8_ok (n : Nat) (hn : 2400 < n) {c T : Nat} (hc : c ≤ 32) (hT : T ≤ 36) {P : Nat → Bool} {τ : Nat → Nat} {srt kk : Nat → Nat} {ℓ : Nat → Nat → Nat} {bb : Nat → Nat} (I : MI) (J : MJ) (hfd : fdC c P srt kk ℓ bb I) (h22 : I 22 1 = nI (ct_cnt P c)) (h23 : ∀ i, i < c → P i = true → I 23 (ct_cnt P i) = nI i) (h24 : ∀ i, i < c → P i = true → I 24 i = nI (τ i) ∧ τ i < T) (h16 : I 16 1 = nI T) (hsz : (ptL (roT c P τ srt kk ℓ bb) T).length ≤ 324) : ∀ q t B, t ≤ T → T < q + t → (∀ a, a ≠ 36 → a ≠ 37 → B a = I a) → (∀ s, s < t → B 36 s = nI (ptL (roT c P τ srt kk ℓ bb) s).length) → (∀ i, i < c → P i = true → τ i < t → B 37 i = nI ((ptL (roT c P τ srt kk ℓ bb) (τ i)).length + (tlL (inT P τ) (lsT srt kk ℓ bb) (τ i) i).length + 3)) → ∃ B', lX1_write_8 n q (nI t) (wmem B (ptL (roT c P τ srt kk ℓ bb) t)) J = some (upM (wmem B' (ptL (roT c P τ srt kk ℓ bb) T)) 34 0 1, J) ∧ (∀ a, a ≠ 36 → a ≠ 37 → B' a = I a) ∧ (∀ s, s ≤ T → B' 36 s = nI (ptL (roT c P τ srt kk ℓ bb) s).length) ∧ ∀ i, i < c → P i = true → B' 37 i = nI ((ptL (roT c P τ srt kk ℓ bb) (τ i)).length + (tlL (inT P τ) (lsT srt kk ℓ bb) (τ i) i).length + 3) := by
  intro q
  induction q with
  | zero => intro t B h1 h2; omega
  | succ q ih =>
    intro t B h1 h2 hB h36 h37
    have e : ∀ M, lX1_write_8 n (q + 1) (nI t) M J = fX1_write_8 n (lX1_write_8 n q) (nI t) M J := fun _ => rfl
    rw [e]
    unfold fX1_write_8
    rw [wmem_size, wmem_at (by decide) (by decide), hB 16 (by decide) (by decide), h16]
    by_cases ht : t = T
    · subst ht
      rw [if_pos (Int32.le_refl _), if_pos (inb_nI (by omega) (by decide)), clampI (by omega), wmem_up (by decide) (by decide)]
      simp only [lt]
      refine ⟨_, rfl, fun a q1 q2 => by rw [upM_ne a q1]; exact hB a q1 q2, fun s hs => ?_, fun i hi hP => by rw [upM_ne 37 (by decide)]; exact h37 i hi hP (h24 i hi hP).2⟩
      rw [upM_get, if_pos rfl]
      by_cases hst : s = t
      · rw [if_pos hst, hst]
      · rw [if_neg hst]; exact h36 s (by omega)
    · have hlen : (ptL (roT c P τ srt kk ℓ bb) t).length + (tlO c P τ srt kk ℓ bb t).length + 1 ≤ 324 := by
        have := ptL_mono (roT c P τ srt kk ℓ bb) (a := t + 1) T (by omega)
        have e2 : ptL (roT c P τ srt kk ℓ bb) (t + 1) = ptL (roT c P τ srt kk ℓ bb) t ++ (tlO c P τ srt kk ℓ bb t ++ [smL (tlO c P τ srt kk ℓ bb t)]) := rfl
        rw [e2, List.length_append, len_1] at this
        omega
      rw [if_neg (nI_ge (by omega) (by omega)), if_pos (inb_nI (by omega) (by decide)), clampI (by omega), wmem_up (by decide) (by decide)]
      simp only [lt]
      obtain ⟨B', g1, g2, g3⟩ := w31_ok n hn (k8 := lX1_write_8 n q) hc (show t < 36 by omega) (τ := τ) I J hfd h22 h23 (fun i hi hP => ⟨(h24 i hi hP).1, by have := (h24 i hi hP).2; omega⟩) (ptL (roT c P τ srt kk ℓ bb) t) hlen c 0 n (upM B 36 t (nI (ptL (roT c P τ srt kk ℓ bb) t).length)) (by omega) (by omega) (fun a q1 q2 => by rw [upM_ne a q1]; exact hB a q1 q2) (by rw [upM_get, if_pos rfl, if_pos rfl])
      have e0 : ptL (roT c P τ srt kk ℓ bb) t ++ tlL (inT P τ) (lsT srt kk ℓ bb) t 0 = ptL (roT c P τ srt kk ℓ bb) t := List.append_nil _
      rw [e0] at g1
      obtain ⟨B'', y1, y2, y3, y4⟩ := ih (t + 1) B' (by omega) (by omega) (fun a q1 q2 => by rw [g2 a q2, upM_ne a q1]; exact hB a q1 q2) (fun s hs => by
        rw [g2 36 (by decide), upM_get, if_pos rfl]
        by_cases hst : s = t
        · rw [if_pos hst, hst]
        · rw [if_neg hst]; exact h36 s (by omega)) (fun i hi hP hτ => by
        rw [g3 i]
        by_cases hit : τ i = t
        · rw [if_pos ⟨Nat.zero_le _, hi, inT_iff.mpr ⟨hP, hit⟩⟩, hit]
        · rw [if_neg (fun z => hit (inT_iff.mp z.2.2).2), upM_ne 37 (by decide)]
          exact h37 i hi hP (by omega))
      exact ⟨B'', g1.trans y1, y2, y3, y4⟩
/-! sizes -/
theorem tl_sz {P : Nat → Bool} {τ : Nat → Nat} {ls : Nat → List Nat} {c t : Nat} (hl : ∀ i, i < c → P i = true → (ls i).length ≤ 9) : ∀ k, k ≤ c → (tlL (inT P τ) ls t k).length ≤ 9 * ct_cnt (inT P τ t) k := by
  intro k
  induction k with
  | zero => intro _; exact Nat.le_refl _
  | succ k ih =>
    intro hk
    have := ih (by omega)
    show (if inT P τ t k = true then tlL (inT P τ) ls t k ++ ls k else tlL (inT P τ) ls t k).length ≤ 9 * (if inT P τ t k = true then ct_cnt (inT P τ t) k + 1 else ct_cnt (inT P τ t) k)
    by_cases h : inT P τ t k = true
    · rw [if_pos h, if_pos h, List.length_append]
      have := hl k (by omega) (inT_iff.mp h).1
      omega
    · rw [if_neg h, if_neg h]; exact this
theorem cnt_lt (P : Nat → Bool) (τ : Nat → Nat) (T : Nat) : ∀ c, ct_cnt (fun i => P i && decide (τ i < T + 1)) c = ct_cnt (fun i => P i && decide (τ i < T)) c + ct_cnt (inT P τ T) c := by
  intro c
  induction c with
  | zero => rfl
  | succ c ih =>
    show (if (P c && decide (τ c < T + 1)) = true then ct_cnt (fun i => P i && decide (τ i < T + 1)) c + 1 else ct_cnt (fun i => P i && decide (τ i < T + 1)) c) = (if (P c && decide (τ c < T)) = true then ct_cnt (fun i => P i && decide (τ i < T)) c + 1 else ct_cnt (fun i => P i && decide (τ i < T)) c) + (if (P c && decide (τ c = T)) = true then ct_cnt (inT P τ T) c + 1 else ct_cnt (inT P τ T) c)
    rw [ih]
    cases hP : P c with
    | false => simp
    | true =>
      simp only [Bool.true_and, decide_eq_true_eq]
      by_cases h1 : τ c < T
      · rw [if_pos (by omega), if_pos h1, if_neg (by omega)]; omega
      · by_cases h2 : τ c = T
        · rw [if_pos (by omega), if_neg h1, if_pos h2]; omega
        · rw [if_neg (by omega), if_neg h1, if_neg h2]
theorem pt_sz {P : Nat → Bool} {τ srt kk : Nat → Nat} {ℓ : Nat → Nat → Nat} {bb : Nat → Nat} {c : Nat} (hl : ∀ i, i < c → P i = true → (lsT srt kk ℓ bb i).length ≤ 9) : ∀ T, (ptL (roT c P τ srt kk ℓ bb) T).length ≤ 9 * ct_cnt (fun i => P i && decide (τ i < T)) c + T := by
  intro T
  induction T with
  | zero => exact Nat.zero_le _
  | succ T ih =>
    have e2 : ptL (roT c P τ srt kk ℓ bb) (T + 1) = ptL (roT c P τ srt kk ℓ bb) T ++ (tlO c P τ srt kk ℓ bb T ++ [smL (tlO c P τ srt kk ℓ bb T)]) := rfl
    have := tl_sz (τ := τ) (t := T) hl c (Nat.le_refl _)
    have e5 : (tlO c P τ srt kk ℓ bb T).length = (tlL (inT P τ) (lsT srt kk ℓ bb) T c).length := rfl
    rw [e2, List.length_append, len_1, cnt_lt]
    omega
/-! the reference -/
def rmem (B : MI) (L : Nat → List Nat) (T : Nat) : MI := fun a b => if a = 68 ∧ b / 40 < T ∧ b % 40 < (L (b / 40)).length then nI (at0 (L (b / 40)) (b % 40)) else if a = 69 ∧ b < T then nI (L b).length else B a b
def upL (L : Nat → List Nat) (t : Nat) (l : List Nat) : Nat → List Nat := fun s => if s = t then l else L s
theorem upL_same (L : Nat → List Nat) (t : Nat) : upL L t (L t) = L := by
  funext s
  unfold upL
  by_cases h : s = t
  · rw [if_pos h, h]
  · rw [if_neg h]
theorem upL_up (L : Nat → List Nat) (t : Nat) (l r : List Nat) : upL (upL L t l) t r = upL L t r := by
  funext s
  unfold upL
  by_cases h : s = t
  · rw [if_pos h, if_pos h]
  · rw [if_neg h, if_neg h, if_neg h]
theorem upL_t (L : Nat → List Nat) (t : Nat) (l : List Nat) : upL L t l t = l := if_pos rfl
theorem rmem_at {B : MI} {L : Nat → List Nat} {T a : Nat} (h1 : a ≠ 68) (h2 : a ≠ 69) : rmem B L T a = B a := by
  funext b
  unfold rmem
  rw [if_neg (fun z => h1 z.1), if_neg (fun z => h2 z.1)]
theorem rmem_69 {B : MI} {L : Nat → List Nat} {T t : Nat} (h : t < T) : rmem B L T 69 t = nI (L t).length := by
  unfold rmem
  rw [if_neg (fun z => absurd z.1 (by decide)), if_pos ⟨rfl, h⟩]
theorem rmem_68 {B : MI} {L : Nat → List Nat} {T t j : Nat} (h : t < T) (hj : j < (L t).length) (h40 : j < 40) : rmem B L T 68 (40 * t + j) = nI (at0 (L t) j) := by
  unfold rmem
  have e1 : (40 * t + j) / 40 = t := by omega
  have e2 : (40 * t + j) % 40 = j := by omega
  rw [e1, e2, if_pos ⟨rfl, h, hj⟩]
theorem rmem_up {B : MI} {L : Nat → List Nat} {T k j : Nat} {v : Int32} (h1 : k ≠ 68) (h2 : k ≠ 69) : upM (rmem B L T) k j v = rmem (upM B k j v) L T := by
  funext a b
  rw [upM_get]
  unfold rmem
  rw [upM_get]
  by_cases ha : a = k
  · subst ha
    simp [h1, h2]
  · simp [ha]
theorem rmem_n68 {B : MI} {L : Nat → List Nat} {T a b : Nat} (h : ¬ a = 68) : rmem B L T a b = if a = 69 ∧ b < T then nI (L b).length else B a b := if_neg (fun z => h z.1)
theorem rmem_e68 {B : MI} {L : Nat → List Nat} {T b : Nat} : rmem B L T 68 b = if b / 40 < T ∧ b % 40 < (L (b / 40)).length then nI (at0 (L (b / 40)) (b % 40)) else B 68 b := by
  unfold rmem
  by_cases h : b / 40 < T ∧ b % 40 < (L (b / 40)).length
  · rw [if_pos ⟨rfl, h⟩, if_pos h]
  · rw [if_neg (fun z => h z.2), if_neg h, if_neg (fun z => absurd z.1 (by decide))]
theorem rmem_put {B : MI} {L : Nat → List Nat} {T t v : Nat} (ht : t < T) (h40 : (L t).length < 40) : upM (upM (rmem B L T) 68 (40 * t + (L t).length) (nI v)) 69 t (nI ((L t).length + 1)) = rmem B (upL L t (L t ++ [v])) T := by
  funext a b
  rw [upM_get, upM_get]
  by_cases h68 : a = 68
  · subst h68
    rw [if_neg (by decide), if_pos rfl, rmem_e68, rmem_e68]
    by_cases hb : b = 40 * t + (L t).length
    · have e1 : b / 40 = t := by omega
      have e2 : b % 40 = (L t).length := by omega
      rw [if_pos hb, e1, e2, upL_t, if_pos ⟨ht, by rw [len_1]; omega⟩, at0_end]
    · rw [if_neg hb]
      by_cases hbt : b / 40 = t
      · have hne : b % 40 ≠ (L t).length := fun z => hb (by omega)
        rw [hbt, upL_t, len_1]
        by_cases hlt : b % 40 < (L t).length
        · rw [if_pos ⟨ht, hlt⟩, if_pos ⟨ht, by omega⟩, at0_l _ _ _ hlt]
        · rw [if_neg (fun z => hlt z.2), if_neg (fun z => by omega)]
      · have : upL L t (L t ++ [v]) (b / 40) = L (b / 40) := if_neg hbt
        rw [this]
  · rw [if_neg h68, rmem_n68 h68, rmem_n68 h68]
    by_cases h69 : a = 69
    · rw [if_pos h69]
      by_cases hb : b = t
      · rw [if_pos hb, if_pos ⟨h69, by omega⟩, hb, upL_t, len_1]
      · have : upL L t (L t ++ [v]) b = L b := if_neg hb
        rw [if_neg hb, this]
    · rw [if_neg h69, if_neg (fun z => h69 z.1), if_neg (fun z => h69 z.1)]
theorem rmem_set {B : MI} {L : Nat → List Nat} {T t u v : Nat} {l : List Nat} (ht : t < T) (hL : L t = l ++ [u]) (h40 : l.length < 40) : upM (rmem B L T) 68 (40 * t + l.length) (nI v) = rmem B (upL L t (l ++ [v])) T := by
  funext a b
  rw [upM_get]
  by_cases h68 : a = 68
  · subst h68
    rw [if_pos rfl, rmem_e68, rmem_e68]
    by_cases hb : b = 40 * t + l.length
    · have e1 : b / 40 = t := by omega
      have e2 : b % 40 = l.length := by omega
      rw [if_pos hb, e1, e2, upL_t, if_pos ⟨ht, by rw [len_1]; omega⟩, at0_end]
    · rw [if_neg hb]
      by_cases hbt : b / 40 = t
      · have hne : b % 40 ≠ l.length := fun z => hb (by omega)
        rw [hbt, upL_t, hL, len_1, len_1]
        by_cases hlt : b % 40 < l.length
        · rw [if_pos ⟨ht, by omega⟩, if_pos ⟨ht, by omega⟩, at0_l _ _ _ hlt, at0_l _ _ _ hlt]
        · rw [if_neg (fun z => by omega), if_neg (fun z => by omega)]
      · have : upL L t (l ++ [v]) (b / 40) = L (b / 40) := if_neg hbt
        rw [this]
  · rw [if_neg h68, rmem_n68 h68, rmem_n68 h68]
    by_cases hb : b = t
    · rw [hb, upL_t, hL, len_1, len_1]
    · have : upL L t (l ++ [v]) b = L b := if_neg hb
      rw [this]
theorem puts_u (n : Nat) {L : Nat → List Nat} {T t v : Nat} {l : List Nat} {x : Int32} (hT : T ≤ 36) (ht : t < T) (h40 : l.length < 40) (hx : x &&& 255 = nI v) (B : MI) (J : MJ) : fX10_puts n (nI t) x (rmem B (upL L t l) T) J = some (rmem B (upL L t (l ++ [v])) T, J) := by
  have e40 : (40 : Int32) * nI t + nI l.length = nI (40 * t + l.length) := by rw [show (40 : Int32) = nI 40 from rfl, pk_mul, nI_add]
  have it : inb (nI t) 36 = true := inb_nI (by omega) (by decide)
  unfold fX10_puts
  rw [clampI (by omega), rmem_69 ht, upL_t, e40, hx]
  simp only [it, if_true]
  rw [if_pos (inb_nI (by omega) (by decide)), clampI (by omega)]
  simp only [lt]
  have e1 : upM (rmem B (upL L t l) T) 68 (40 * t + l.length) (nI v) 69 t = nI l.length := by rw [upM_ne 69 (by decide), rmem_69 ht, upL_t]
  rw [e1, nI_1]
  have := rmem_put (B := B) (L := upL L t l) (v := v) ht (by rw [upL_t]; exact h40)
  rw [upL_t, upL_up] at this
  rw [this]
theorem sumR_w (n : Nat) {L : Nat → List Nat} {T t : Nat} {l : List Nat} (hT : T ≤ 36) (ht : t < T) (h40 : l.length < 40) (u : Nat) (hL : L t = l ++ [u]) (B : MI) (J : MJ) : ∀ q j, j ≤ l.length → l.length < q + j → lX10_sumOf_6 n q (nI t) (255 - sg (fun j => nI (at0 l j)) j) (nI j) (rmem B L T) J = some (nI (smL l), rmem B L T, J) := by
  have eL : nI (l.length + 1) - 1 = nI l.length := pk_sub (a := l.length + 1) (b := 1) (by omega)
  intro q
  induction q with
  | zero => intro j h1 h2; omega
  | succ q ih =>
    intro j h1 h2
    have e : ∀ a b M, lX10_sumOf_6 n (q + 1) (nI t) a b M J = fX10_sumOf_6 n (lX10_sumOf_6 n q) (nI t) a b M J := fun _ _ _ => rfl
    rw [e]
    unfold fX10_sumOf_6
    rw [if_pos (inb_nI (by omega) (by decide)), clampI (by omega), rmem_69 ht, hL, len_1, eL]
    by_cases hj : j = l.length
    · rw [if_pos (nI_le (by omega) (by omega)), hj, (smL_eq l).1]
    · have e40 : (40 : Int32) * nI t + nI j = nI (40 * t + j) := by rw [show (40 : Int32) = nI 40 from rfl, pk_mul, nI_add]
      rw [if_neg (nI_ge (by omega) (by omega)), e40, if_pos (inb_nI (by omega) (by decide)), clampI (by omega), rmem_68 ht (by rw [hL, len_1]; omega) (by omega), hL, at0_l _ _ _ (by omega), nI_1, Int32.sub_sub]
      simp only [lt]
      exact ih (j + 1) (by omega) (by omega)
def fdR (c : Nat) (P : Nat → Bool) (srt kk : Nat → Nat) (ℓ : Nat → Nat → Nat) (bb : Nat → Nat) (I : MI) : Prop := ∀ i, i < c → P i = true → srt i < 3 ∧ kk i ≤ 4 ∧ bb i < 65536 ∧ I 45 i = nI (srt i) ∧ (srt i = 0 → kk i = 0) ∧ (srt i = 1 → kk i = 1 ∧ I 46 i = nI (ℓ i 0)) ∧ (srt i = 2 → I 57 i = nI (kk i) ∧ (∀ j, j < kk i → I 56 (4 * i + j) = nI (ℓ i j)) ∧ I 58 i = nI (bb i)) ∧ ∀ j, j < kk i → ℓ i j < 256
theorem f114_ok (n : Nat) {k41 : Int32 → Int32 → MI → MJ → Option (Int32 × M2)} {x1 : Int32} {i t T srt k b : Nat} {ℓ : Nat → Nat} {L : Nat → List Nat} (hi : i < 32) (hT : T ≤ 36) (ht : t < T) (hs : srt < 3) (hk : k ≤ 4) (hb : b < 65536) (B : MI) (J : MJ) (h45 : B 45 i = nI srt) (h0 : srt = 0 → k = 0) (h1 : srt = 1 → k = 1 ∧ B 46 i = nI (ℓ 0)) (hg : srt = 2 → B 57 i = nI k ∧ (∀ j, j < k → B 56 (4 * i + j) = nI (ℓ j)) ∧ B 58 i = nI b) (hℓ : ∀ j, j < k → ℓ j < 256) (l : List Nat) (hl : l.length + k + 2 ≤ 40) : ∀ q j, j ≤ k → k < q + j → lX10_frames_114 n k41 q x1 (nI i) (nI t) (nI j) (rmem B (upL L t (l ++ (List.range j).map ℓ)) T) J = k41 x1 (nI (i + 1)) (rmem B (upL L t (l ++ (List.range k).map ℓ ++ tailB srt b)) T) J := by
  have ii : inb (nI i) 32 = true := inb_nI hi (by decide)
  have hcs : srt = 0 ∨ srt = 1 ∨ srt = 2 := by omega
  have hLO : ∀ M, fX10_lettersOf n (nI i) (rmem B M T) J = some (nI k, rmem B M T, J) := by
    intro M
    unfold fX10_lettersOf
    rw [clampI (by omega), rmem_at (by decide) (by decide), rmem_at (by decide) (by decide), h45]
    simp only [ii, if_true]
    rcases hcs with rfl | rfl | rfl
    · rw [if_neg (by decide), if_neg (by decide), h0 rfl]; rfl
    · rw [if_pos (by decide), (h1 rfl).1]; rfl
    · rw [if_neg (by decide), if_pos (by decide), (hg rfl).1]
  have hLE : ∀ M j, j < k → fX10_letter n (nI i) (nI j) (rmem B M T) J = some (nI (ℓ j), rmem B M T, J) := by
    intro M j hj
    have e4 : (4 : Int32) * nI i + nI j = nI (4 * i + j) := by rw [show (4 : Int32) = nI 4 from rfl, pk_mul, nI_add]
    unfold fX10_letter
    rw [clampI (by omega), rmem_at (by decide) (by decide), rmem_at (by decide) (by decide), rmem_at (by decide) (by decide), h45, e4]
    simp only [ii, if_true]
    rcases hcs with rfl | rfl | rfl
    · rw [h0 rfl] at hj; omega
    · rw [if_pos (by decide), (h1 rfl).2]
      have : j = 0 := by rw [(h1 rfl).1] at hj; omega
      rw [this]
    · rw [if_neg (by decide), if_pos (inb_nI (by omega) (by decide)), clampI (by omega), (hg rfl).2.1 j hj]
  intro q
  induction q with
  | zero => intro j h2 h3; omega
  | succ q ih =>
    intro j h2 h3
    have e : ∀ M, lX10_frames_114 n k41 (q + 1) x1 (nI i) (nI t) (nI j) M J = fX10_frames_114 n k41 (lX10_frames_114 n k41 q) x1 (nI i) (nI t) (nI j) M J := fun _ => rfl
    have hlen := rng_len l ℓ j
    rw [e]
    unfold fX10_frames_114 fX10_frames_180
    rw [hLO]
    simp only [Option.bind_some]
    by_cases hj : j = k
    · subst hj
      rw [if_pos (Int32.le_refl _), clampI (by omega), rmem_at (by decide) (by decide), rmem_at (by decide) (by decide), h45, nI_1]
      simp only [ii, if_true]
      rcases hcs with rfl | rfl | rfl
      · rw [if_neg (by decide)]
        simp [tailB]
      · rw [if_neg (by decide)]
        simp [tailB]
      · obtain ⟨-, -, h58⟩ := hg rfl
        rw [if_pos (by decide), h58, puts_u n hT ht (by omega) (and255 b)]
        simp only [Option.bind_some]
        rw [rmem_at (by decide) (by decide), h58, puts_u n hT ht (by rw [len_1]; omega) (ssh8 hb)]
        simp only [Option.bind_some]
        rw [List.append_assoc (l ++ List.map ℓ (List.range j))]
        rfl
    · rw [if_neg (nI_ge (by omega) (by omega)), hLE _ j (by omega)]
      simp only [Option.bind_some]
      have hv := hℓ j (by omega)
      rw [puts_u n hT ht (by omega) (v := ℓ j) (by rw [and255, Nat.mod_eq_of_lt hv])]
      simp only [Option.bind_some]
      rw [rng_1, nI_1]
      exact ih (j + 1) (by omega) (by omega)
theorem f41_ok (n : Nat) (hn : 2400 < n) {c T : Nat} (hc : c ≤ 32) (hT : T ≤ 36) {P : Nat → Bool} {τ : Nat → Nat} {srt kk : Nat → Nat} {ℓ : Nat → Nat → Nat} {bb : Nat → Nat} (I : MI) (J : MJ) (hP : ∀ i, i < c → (P i = true ↔ thg I i)) (hfd : fdR c P srt kk ℓ bb I) (h6 : I 44 6 = nI c) (h61 : ∀ i, i < c → P i = true → I 61 i = nI (τ i) ∧ τ i < T) (hsz : ∀ t, t < T → (tlO c P τ srt kk ℓ bb t).length ≤ 36) : ∀ q k B, k ≤ c → c < q + k → (∀ a, a ≠ 70 → B a = I a) → (∀ i, i < k → P i = true → B 70 i = nI (40 * τ i + (tlL (inT P τ) (lsT srt kk ℓ bb) (τ i) i).length)) → ∃ B', lX10_frames_41 n q 0 (nI k) (rmem B (fun t => tlL (inT P τ) (lsT srt kk ℓ bb) t k) T) J = lX10_frames_188 n n 0 0 (rmem B' (fun t => tlO c P τ srt kk ℓ bb t) T) J ∧ (∀ a, a ≠ 70 → B' a = I a) ∧ ∀ i, i < c → P i = true → B' 70 i = nI (40 * τ i + (tlL (inT P τ) (lsT srt kk ℓ bb) (τ i) i).length) := by
  intro q
  induction q with
  | zero => intro k B h1 h2; omega
  | succ q ih =>
    intro k B h1 h2 hB h70
    have e : ∀ M, lX10_frames_41 n (q + 1) 0 (nI k) M J = fX10_frames_41 n (lX10_frames_41 n q) 0 (nI k) M J := fun _ => rfl
    rw [e]
    unfold fX10_frames_41
    rw [rmem_at (by decide) (by decide), hB 44 (by decide), h6]
    by_cases hk : k = c
    · subst hk
      rw [if_pos (Int32.le_refl _)]
      exact ⟨B, rfl, hB, h70⟩
    have hkc : k < c := by omega
    have ii : inb (nI k) 32 = true := inb_nI (by omega) (by decide)
    rw [if_neg (nI_ge (by omega) (by omega)), isThing_eq n (by omega), rmem_at (by decide) (by decide), rmem_at (by decide) (by decide), hB 45 (by decide), hB 55 (by decide)]
    simp only [Option.bind_some]
    by_cases hth : thg I k
    · have hPk := (hP k hkc).mpr hth
      obtain ⟨e61, hτ⟩ := h61 k hkc hPk
      obtain ⟨f1, f2, f3, f4, f5, f6, f7, f8⟩ := hfd k hkc hPk
      obtain ⟨t, ht⟩ : ∃ t, t = τ k := ⟨_, rfl⟩
      rw [← ht] at e61 hτ
      have hin : inT P τ t k = true := inT_iff.mpr ⟨hPk, ht.symm⟩
      have it : inb (nI t) 36 = true := inb_nI (by omega) (by decide)
      have htl : tlL (inT P τ) (lsT srt kk ℓ bb) t (k + 1) = tlL (inT P τ) (lsT srt kk ℓ bb) t k ++ lsT srt kk ℓ bb k := if_pos hin
      have hlen : (tlL (inT P τ) (lsT srt kk ℓ bb) t k).length + (lsT srt kk ℓ bb k).length ≤ 36 := by
        have h3 := tlL_mono (inT P τ) (lsT srt kk ℓ bb) t (a := k + 1) c (by omega)
        have h4 := hsz t hτ
        rw [htl, List.length_append] at h3
        have h5 : (tlO c P τ srt kk ℓ bb t).length = (tlL (inT P τ) (lsT srt kk ℓ bb) t c).length := rfl
        omega
      have hlk : (lsT srt kk ℓ bb k).length = 3 + kk k + if srt k = 2 then 2 else 0 := lst_len _ _ _ _ _
      have e40 : (40 : Int32) * nI t + nI (tlL (inT P τ) (lsT srt kk ℓ bb) t k).length = nI (40 * t + (tlL (inT P τ) (lsT srt kk ℓ bb) t k).length) := by rw [show (40 : Int32) = nI 40 from rfl, pk_mul, nI_add]
      rw [b2_t hth, if_neg (by decide), clampI (by omega), rmem_at (by decide) (by decide), hB 61 (by decide), e61]
      simp only [ii, it, if_true, lt]
      rw [clampI (by omega), rmem_69 hτ, e40, rmem_up (by decide) (by decide)]
      obtain ⟨B1, hB1⟩ : ∃ B1, B1 = upM B 70 k (nI (40 * t + (tlL (inT P τ) (lsT srt kk ℓ bb) t k).length)) := ⟨_, rfl⟩
      have e1 : ∀ a, a ≠ 70 → B1 a = I a := fun a ha => by rw [hB1, upM_ne a ha]; exact hB a ha
      rw [← hB1]
      obtain ⟨L, hL⟩ : ∃ L : Nat → List Nat, L = fun t => tlL (inT P τ) (lsT srt kk ℓ bb) t k := ⟨_, rfl⟩
      have eLt : L t = tlL (inT P τ) (lsT srt kk ℓ bb) t k := by rw [hL]
      rw [← hL, ← upL_same L t, puts_u n hT hτ (by rw [eLt]; omega) (v := k) (by rw [and255, Nat.mod_eq_of_lt (by omega)])]
      simp only [Option.bind_some]
      rw [rmem_at (by decide) (by decide), e1 45 (by decide), f4, puts_u n hT hτ (by rw [len_1, eLt]; omega) (v := srt k) (by rw [and255, Nat.mod_eq_of_lt (by omega)])]
      simp only [Option.bind_some]
      have hLO : ∀ M, fX10_lettersOf n (nI k) (rmem B1 M T) J = some (nI (kk k), rmem B1 M T, J) := by
        intro M
        unfold fX10_lettersOf
        rw [clampI (by omega), rmem_at (by decide) (by decide), rmem_at (by decide) (by decide), e1 45 (by decide), e1 57 (by decide), f4]
        simp only [ii, if_true]
        have hcs : srt k = 0 ∨ srt k = 1 ∨ srt k = 2 := by omega
        rcases hcs with z | z | z
        · rw [z, if_neg (by decide), if_neg (by decide), f5 z]; rfl
        · rw [z, if_pos (by decide), (f6 z).1]; rfl
        · rw [z, if_neg (by decide), if_pos (by decide), (f7 z).1]
      rw [hLO]
      simp only [Option.bind_some]
      rw [puts_u n hT hτ (by rw [len_1, len_1, eLt]; omega) (v := kk k) (by rw [and255, Nat.mod_eq_of_lt (by omega)])]
      simp only [Option.bind_some]
      have h114 := f114_ok n (k41 := lX10_frames_41 n q) (x1 := 0) (i := k) (b := bb k) (ℓ := ℓ k) (L := L) (by omega) hT hτ f1 f2 f3 B1 J (by rw [e1 45 (by decide)]; exact f4) f5 (by rw [e1 46 (by decide)]; exact f6) (by rw [e1 56 (by decide), e1 57 (by decide), e1 58 (by decide)]; exact f7) f8 (L t ++ [k] ++ [srt k] ++ [kk k]) (by rw [len_1, len_1, len_1, eLt]; omega) n 0 (Nat.zero_le _) (by omega)
      rw [List.range_zero, List.map_nil, List.append_nil] at h114
      have eend : L t ++ [k] ++ [srt k] ++ [kk k] ++ (List.range (kk k)).map (ℓ k) ++ tailB (srt k) (bb k) = tlL (inT P τ) (lsT srt kk ℓ bb) t (k + 1) := by
        rw [htl, eLt]
        unfold lsT lst
        simp
      have eLn : upL L t (tlL (inT P τ) (lsT srt kk ℓ bb) t (k + 1)) = fun s => tlL (inT P τ) (lsT srt kk ℓ bb) s (k + 1) := by
        funext s
        unfold upL
        by_cases hst : s = t
        · rw [if_pos hst, hst]
        · have hns : ¬ inT P τ s k = true := fun z => hst (by rw [ht]; exact (inT_iff.mp z).2.symm)
          rw [if_neg hst, hL]
          exact (if_neg hns).symm
      rw [eend, eLn, nI_0] at h114
      rw [h114]
      refine ih (k + 1) B1 (by omega) (by omega) e1 (fun i hi hPi => ?_)
      rw [hB1, upM_get, if_pos rfl]
      by_cases hik : i = k
      · rw [if_pos hik, hik, ht]
      · rw [if_neg hik]; exact h70 i (by omega) hPi
    · have hnP : ¬ P k = true := fun z => hth ((hP k hkc).mp z)
      unfold fX10_frames_180
      rw [b2_f hth, if_pos rfl, nI_1]
      have eLn : (fun t => tlL (inT P τ) (lsT srt kk ℓ bb) t k) = fun t => tlL (inT P τ) (lsT srt kk ℓ bb) t (k + 1) := by
        funext s
        have hns : ¬ inT P τ s k = true := fun z => hnP (inT_iff.mp z).1
        exact (if_neg hns).symm
      rw [eLn]
      refine ih (k + 1) B (by omega) (by omega) hB (fun i hi hPi => ?_)
      by_cases hik : i = k
      · rw [hik] at hPi; exact absurd hPi hnP
      · exact h70 i (by omega) hPi
theorem f188_ok (n : Nat) (hn : 2400 < n) {T : Nat} (hT : T ≤ 36) {tl : Nat → List Nat} (B : MI) (J : MJ) (h24 : B 44 24 * B 44 25 = nI T) (hsz : ∀ t, t < T → (tl t).length ≤ 36) : ∀ q k, k ≤ T → T < q + k → lX10_frames_188 n q (nI (ptL (fun t => tl t ++ [smL (tl t)]) k).length) (nI k) (rmem B (fun t => if t < k then tl t ++ [smL (tl t)] else tl t) T) J = Option.bind (fX10_begins n (upM (rmem B (fun t => if t < T then tl t ++ [smL (tl t)] else tl t) T) 44 14 1) J) (fun r246 => some (nI (ptL (fun t => tl t ++ [smL (tl t)]) T).length, r246.1, r246.2)) := by
  intro q
  induction q with
  | zero => intro k h1 h2; omega
  | succ q ih =>
    intro k h1 h2
    have e : ∀ a M, lX10_frames_188 n (q + 1) a (nI k) M J = fX10_frames_188 n (lX10_frames_188 n q) a (nI k) M J := fun _ _ => rfl
    rw [e]
    unfold fX10_frames_188
    rw [tiles_eq, rmem_at (by decide) (by decide), h24]
    simp only [Option.bind_some]
    by_cases hk : k = T
    · subst hk
      rw [if_pos (Int32.le_refl _)]
      rfl
    have hkT : k < T := by omega
    have ik : inb (nI k) 36 = true := inb_nI (by omega) (by decide)
    have hs := hsz k hkT
    obtain ⟨L, hL⟩ : ∃ L : Nat → List Nat, L = fun t => if t < k then tl t ++ [smL (tl t)] else tl t := ⟨_, rfl⟩
    have eLk : L k = tl k := by rw [hL]; exact if_neg (Nat.lt_irrefl k)
    have hput := puts_u n (L := L) (l := L k) (v := 0) (x := 0) hT hkT (by rw [eLk]; omega) (by decide) B J
    rw [upL_same] at hput
    rw [if_neg (nI_ge (by omega) (by omega)), ← hL, hput]
    simp only [Option.bind_some]
    have hsum : fX10_sumOf n (nI k) (rmem B (upL L k (L k ++ [0])) T) J = some (nI (smL (tl k)), rmem B (upL L k (L k ++ [0])) T, J) := by
      have := sumR_w n (L := upL L k (L k ++ [0])) (l := tl k) hT hkT (by omega) 0 (by rw [upL_t, eLk]) B J n 0 (Nat.zero_le _) (by omega)
      have e0 : (255 : Int32) - sg (fun j => nI (at0 (tl k) j)) 0 = 255 := by
        show (255 : Int32) - 0 = 255
        decide
      rw [e0] at this
      exact this
    have e40 : (40 : Int32) * nI k + nI (tl k ++ [0]).length - 1 = nI (40 * k + (tl k).length) := by
      rw [show (40 : Int32) = nI 40 from rfl, pk_mul, nI_add, len_1]
      exact pk_sub (a := 40 * k + ((tl k).length + 1)) (b := 1) (by omega)
    rw [hsum, clampI (by omega), rmem_69 hkT, upL_t, eLk, e40]
    simp only [Option.bind_some, ik, if_true]
    rw [if_pos (inb_nI (by omega) (by decide)), clampI (by omega), rmem_set (l := tl k) (u := 0) hkT (upL_t _ _ _) (by omega), upL_up]
    simp only [lt]
    have eL2 : upL L k (tl k ++ [smL (tl k)]) = fun t => if t < k + 1 then tl t ++ [smL (tl t)] else tl t := by
      funext s
      unfold upL
      by_cases hsk : s = k
      · rw [if_pos hsk, hsk, if_pos (by omega)]
      · rw [if_neg hsk, hL]
        show (if s < k then _ else _) = (if s < k + 1 then _ else _)
        by_cases h : s < k
        · rw [if_pos h, if_pos (by omega)]
        · rw [if_neg h, if_neg (by omega)]
    rw [rmem_69 hkT, upL_t, nI_add, nI_1, eL2]
    have ept : (ptL (fun t => tl t ++ [smL (tl t)]) k).length + (tl k ++ [smL (tl k)]).length = (ptL (fun t => tl t ++ [smL (tl t)]) (k + 1)).length := by
      rw [← List.length_append]
      rfl
    rw [ept]
    exact ih (k + 1) (by omega) (by omega)
theorem f18_ok (n : Nat) (hn : 2400 < n) {T : Nat} (hT : T ≤ 36) (I : MI) (J : MJ) (h24 : I 44 24 * I 44 25 = nI T) : lX10_frames_18 n n 0 0 I J = lX10_frames_41 n n 0 0 (rmem I (fun _ => []) T) J := by
  have l : ∀ q k, k ≤ T → T < q + k → lX10_frames_18 n q 0 (nI k) (fillc I 69 k 0) J = lX10_frames_41 n n 0 0 (fillc I 69 T 0) J := by
    intro q
    induction q with
    | zero => intro k h1 h2; omega
    | succ q ih =>
      intro k h1 h2
      have e : ∀ M, lX10_frames_18 n (q + 1) 0 (nI k) M J = fX10_frames_18 n (lX10_frames_18 n q) 0 (nI k) M J := fun _ => rfl
      have h44 : fillc I 69 k 0 44 = I 44 := by funext b; exact if_neg (fun z => absurd z.1 (by decide))
      rw [e]
      unfold fX10_frames_18
      rw [tiles_eq, h44, h24]
      simp only [Option.bind_some]
      by_cases hk : k = T
      · subst hk
        rw [if_pos (Int32.le_refl _)]
      · rw [if_neg (nI_ge (by omega) (by omega)), if_pos (inb_nI (by omega) (by decide)), clampI (by omega), nI_1, fill_step]
        exact ih (k + 1) (by omega) (by omega)
  have h0 : fillc I 69 0 0 = I := by funext a b; exact if_neg (fun h => by omega)
  have hT' : fillc I 69 T 0 = rmem I (fun _ => []) T := by
    funext a b
    unfold fillc rmem
    rw [if_neg (show ¬ (a = 68 ∧ b / 40 < T ∧ b % 40 < ([] : List Nat).length) from fun z => absurd z.2.2 (Nat.not_lt_zero _))]
    rfl
  have := l n 0 (Nat.zero_le _) (by omega)
  rw [h0, hT'] at this
  exact this
