/-! loops that fill: Arrays.fill, begin, begins -/
def fillc (I : MI) (k N : Nat) (v : Int32) : MI := fun a b => if a = k ∧ b < N then v else I a b
def fillJ (J : MJ) (k N : Nat) (v : Int64) : MJ := fun a b => if a = k ∧ b < N then v else J a b
theorem fill_step (I : MI) (k i : Nat) (v : Int32) : upM (fillc I k i v) k i v = fillc I k (i + 1) v := by
  funext a b
  rw [upM_get]
  unfold fillc
  by_cases h1 : a = k
  · by_cases h2 : b = i
    · rw [if_pos h1, if_pos h2, if_pos ⟨h1, by omega⟩]
    · rw [if_pos h1, if_neg h2]
      by_cases h3 : b < i
      · rw [if_pos ⟨h1, h3⟩, if_pos ⟨h1, by omega⟩]
      · rw [if_neg (fun h => h3 h.2), if_neg (fun h => h2 (by omega))]
  · rw [if_neg h1, if_neg (fun h => h1 h.1), if_neg (fun h => h1 h.1)]
theorem fillJ_step (J : MJ) (k i : Nat) (v : Int64) : upN (fillJ J k i v) k i v = fillJ J k (i + 1) v := by
  funext a b
  rw [upN_get]
  unfold fillJ
  by_cases h1 : a = k
  · by_cases h2 : b = i
    · rw [if_pos h1, if_pos h2, if_pos ⟨h1, by omega⟩]
    · rw [if_pos h1, if_neg h2]
      by_cases h3 : b < i
      · rw [if_pos ⟨h1, h3⟩, if_pos ⟨h1, by omega⟩]
      · rw [if_neg (fun h => h3 h.2), if_neg (fun h => h2 (by omega))]
  · rw [if_neg h1, if_neg (fun h => h1 h.1), if_neg (fun h => h1 h.1)]
theorem fill_loop (n k N : Nat) (v : Int32) (I : MI) (J : MJ) (hN : N < 2 ^ 31) (hk : alb 44 k = N) : ∀ q i, i ≤ N → N < q + i → lJ7_fill_53178_5 n q k v (nI i) (nI N) (fillc I k i v) J = some (fillc I k N v, J) := by
  intro q
  induction q with
  | zero => intro i h1 h2; omega
  | succ q ih =>
    intro i h1 h2
    show fJ7_fill_53178_5 n (lJ7_fill_53178_5 n q) k v (nI i) (nI N) (fillc I k i v) J = _
    unfold fJ7_fill_53178_5
    by_cases h : i = N
    · subst h
      rw [if_pos (Int32.le_refl _)]
    · rw [if_neg (nI_ge (by omega) hN), hk, if_pos (inb_nI (by omega) hN), clampI (by omega), nI_1]
      show lJ7_fill_53178_5 n q k v (nI (i + 1)) (nI N) (upM (fillc I k i v) k i v) J = _
      rw [fill_step]
      exact ih (i + 1) (by omega) (by omega)
theorem fill_eq (n k N : Nat) (v : Int32) (I : MI) (J : MJ) (hN : N < 2 ^ 31) (h0 : N ≠ 0) (hk : alb 44 k = N) (hn : N < n) : fJ7_fill_53178 n k v I J = some (fillc I k N v, J) := by
  unfold fJ7_fill_53178
  rw [hk, if_pos (show nn0 N = true from decide_eq_true h0)]
  have h : fillc I k 0 v = I := by funext a b; exact if_neg (fun h => by omega)
  have h1 := fill_loop n k N v I J hN hk n 0 (Nat.zero_le _) (by omega)
  rw [h] at h1
  exact h1
theorem fillJ_loop (n k N : Nat) (v : Int64) (I : MI) (J : MJ) (hN : N < 2 ^ 31) (hk : albJ 44 k = N) : ∀ q i, i ≤ N → N < q + i → lJ7_fill_d0a16_6 n q k v (nI i) (nI N) I (fillJ J k i v) = some (I, fillJ J k N v) := by
  intro q
  induction q with
  | zero => intro i h1 h2; omega
  | succ q ih =>
    intro i h1 h2
    show fJ7_fill_d0a16_6 n (lJ7_fill_d0a16_6 n q) k v (nI i) (nI N) I (fillJ J k i v) = _
    unfold fJ7_fill_d0a16_6
    by_cases h : i = N
    · subst h
      rw [if_pos (Int32.le_refl _)]
    · rw [if_neg (nI_ge (by omega) hN), hk, if_pos (inb_nI (by omega) hN), clampI (by omega), nI_1]
      show lJ7_fill_d0a16_6 n q k v (nI (i + 1)) (nI N) I (upN (fillJ J k i v) k i v) = _
      rw [fillJ_step]
      exact ih (i + 1) (by omega) (by omega)
theorem fillJ_eq (n k N : Nat) (v : Int64) (I : MI) (J : MJ) (hN : N < 2 ^ 31) (h0 : N ≠ 0) (hk : albJ 44 k = N) (hn : N < n) : fJ7_fill_d0a16 n k v I J = some (I, fillJ J k N v) := by
  unfold fJ7_fill_d0a16
  rw [hk, if_pos (show nn0 N = true from decide_eq_true h0)]
  have h : fillJ J k 0 v = J := by funext a b; exact if_neg (fun h => by omega)
  have h1 := fillJ_loop n k N v I J hN hk n 0 (Nat.zero_le _) (by omega)
  rw [h] at h1
  exact h1
/-- Runs.begin: behind it -/
def begV (I : MI) (c : Nat) : Int32 := ushrI (I 1 10) (nI c) &&& 1
def begS (I : MI) (i : Nat) : MI := fun a b => if (a = 39 ∨ a = 40) ∧ b < i then begV I b else I a b
theorem begS_at (I : MI) (i a : Nat) (h39 : a ≠ 39) (h40 : a ≠ 40) : begS I i a = I a := by
  funext b
  exact if_neg (fun h => h.1.elim h39 h40)
theorem beg_step (I : MI) (i : Nat) : upM (upM (begS I i) 39 i (begV I i)) 40 i (begV I i) = begS I (i + 1) := by
  funext a b
  rw [upM_get, upM_get]
  unfold begS
  by_cases h1 : a = 40
  · rw [if_pos h1, if_neg (by omega : ¬ a = 39)]
    by_cases h2 : b = i
    · rw [if_pos h2, if_pos ⟨Or.inr h1, by omega⟩, h2]
    · rw [if_neg h2]
      by_cases h3 : b < i
      · rw [if_pos ⟨Or.inr h1, h3⟩, if_pos ⟨Or.inr h1, by omega⟩]
      · rw [if_neg (fun h => h3 h.2), if_neg (fun h => h2 (by omega))]
  · rw [if_neg h1]
    by_cases h4 : a = 39
    · rw [if_pos h4]
      by_cases h2 : b = i
      · rw [if_pos h2, if_pos ⟨Or.inl h4, by omega⟩, h2]
      · rw [if_neg h2]
        by_cases h3 : b < i
        · rw [if_pos ⟨Or.inl h4, h3⟩, if_pos ⟨Or.inl h4, by omega⟩]
        · rw [if_neg (fun h => h3 h.2), if_neg (fun h => h2 (by omega))]
    · rw [if_neg h4, if_neg (fun h => h.1.elim h4 h1), if_neg (fun h => h.1.elim h4 h1)]
theorem beg_loop (n : Nat) (I : MI) (J : MJ) : ∀ q i, i ≤ 32 → 32 < q + i → lX6_begin_22 n q (nI i) (begS I i) J = some (begS I 32, J) := by
  intro q
  induction q with
  | zero => intro i h1 h2; omega
  | succ q ih =>
    intro i h1 h2
    show fX6_begin_22 n (lX6_begin_22 n q) (nI i) (begS I i) J = _
    unfold fX6_begin_22
    by_cases h : i = 32
    · subst h
      rw [if_pos (by decide)]
    · have hi : inb (nI i) 32 = true := inb_nI (by omega) (by decide)
      rw [if_neg (show ¬ (32 : Int32) ≤ nI i from nI_ge (a := i) (b := 32) (by omega) (by decide))]
      simp only [lt, hi, if_true, clampI (show i < 2 ^ 31 by omega), nI_1, begS_at I i 1 (by decide) (by decide)]
      show lX6_begin_22 n q (nI (i + 1)) (upM (upM (begS I i) 39 i (begV I i)) 40 i (upM (begS I i) 39 i (begV I i) 39 i)) J = _
      rw [show upM (begS I i) 39 i (begV I i) 39 i = begV I i from by rw [upM_get, if_pos rfl, if_pos rfl], beg_step]
      exact ih (i + 1) (by omega) (by omega)
def begF (I : MI) : MI := begS (upM (upM (upM (upM I 38 0 0) 38 1 0) 38 2 0) 38 3 (-1)) 32
theorem begin_eq (n : Nat) (hn : 32 < n) (I : MI) (J : MJ) : fX6_begin n I J = some (begF I, J) := by
  unfold fX6_begin
  have h := beg_loop n (upM (upM (upM (upM I 38 0 0) 38 1 0) 38 2 0) 38 3 (-1)) J n 0 (Nat.zero_le _) (by omega)
  rw [show begS (upM (upM (upM (upM I 38 0 0) 38 1 0) 38 2 0) 38 3 (-1)) 0 = upM (upM (upM (upM I 38 0 0) 38 1 0) 38 2 0) 38 3 (-1) from by funext a b; exact if_neg (fun h => by omega)] at h
  exact h
/-- the reference's begins: behind it -/
def bgnV (I : MI) (c : Nat) : Int32 := if I 45 c = 1 ∧ ¬ I 49 c = 0 then 1 else 0
def bgnS (I : MI) (i : Nat) : MI := fun a b => if (a = 71 ∨ a = 72) ∧ b < i then bgnV I b else I a b
theorem bgnS_at (I : MI) (i a : Nat) (h1 : a ≠ 71) (h2 : a ≠ 72) : bgnS I i a = I a := by
  funext b
  exact if_neg (fun h => h.1.elim h1 h2)
theorem bgn_step (I : MI) (i : Nat) : upM (upM (bgnS I i) 71 i (bgnV I i)) 72 i (bgnV I i) = bgnS I (i + 1) := by
  funext a b
  rw [upM_get, upM_get]
  unfold bgnS
  by_cases h1 : a = 72
  · rw [if_pos h1, if_neg (by omega : ¬ a = 71)]
    by_cases h2 : b = i
    · rw [if_pos h2, if_pos ⟨Or.inr h1, by omega⟩, h2]
    · rw [if_neg h2]
      by_cases h3 : b < i
      · rw [if_pos ⟨Or.inr h1, h3⟩, if_pos ⟨Or.inr h1, by omega⟩]
      · rw [if_neg (fun h => h3 h.2), if_neg (fun h => h2 (by omega))]
  · rw [if_neg h1]
    by_cases h4 : a = 71
    · rw [if_pos h4]
      by_cases h2 : b = i
      · rw [if_pos h2, if_pos ⟨Or.inl h4, by omega⟩, h2]
      · rw [if_neg h2]
        by_cases h3 : b < i
        · rw [if_pos ⟨Or.inl h4, h3⟩, if_pos ⟨Or.inl h4, by omega⟩]
        · rw [if_neg (fun h => h3 h.2), if_neg (fun h => h2 (by omega))]
    · rw [if_neg h4, if_neg (fun h => h.1.elim h4 h1), if_neg (fun h => h.1.elim h4 h1)]
theorem bgn_one (n : Nat) (k : Int32 → MI → MJ → Option M2) (I : MI) (J : MJ) (i : Nat) (hi : i < 32) (v : Int32) (hv : bz v = v) (hV : v = bgnV I i) : fX10_begins_39 n k (nI i) (nI i) v (bgnS I i) J = k (nI (i + 1)) (bgnS I (i + 1)) J := by
  unfold fX10_begins_39
  have h : inb (nI i) 32 = true := inb_nI hi (by decide)
  simp only [lt, h, if_true, clampI (show i < 2 ^ 31 by omega), nI_1, hv]
  show k (nI (i + 1)) (upM (upM (bgnS I i) 71 i v) 72 i (bz (upM (bgnS I i) 71 i v 71 i))) J = _
  rw [show upM (bgnS I i) 71 i v 71 i = v from by rw [upM_get, if_pos rfl, if_pos rfl], hv, hV, bgn_step]
theorem bgn_loop (n c : Nat) (hc : c ≤ 32) (I : MI) (J : MJ) (hI : I 44 6 = nI c) : ∀ q i, i ≤ c → c < q + i → lX10_begins_2 n q (nI i) (bgnS I i) J = some (upM (upM (bgnS I c) 44 42 0) 44 45 (-1), J) := by
  intro q
  induction q with
  | zero => intro i h1 h2; omega
  | succ q ih =>
    intro i h1 h2
    show fX10_begins_2 n (lX10_begins_2 n q) (nI i) (bgnS I i) J = _
    unfold fX10_begins_2
    rw [bgnS_at I i 44 (by decide) (by decide), hI]
    by_cases h : i = c
    · subst h
      rw [if_pos (Int32.le_refl _)]
      rfl
    · have hi : inb (nI i) 32 = true := inb_nI (by omega) (by decide)
      rw [if_neg (nI_ge (by omega) (by omega)), if_pos hi, if_pos hi, clampI (by omega), bgnS_at I i 45 (by decide) (by decide), bgnS_at I i 49 (by decide) (by decide)]
      have hgo := ih (i + 1) (by omega) (by omega)
      unfold fX10_begins_38
      by_cases h3 : I 45 i = 1
      · rw [if_pos h3]
        by_cases h4 : I 49 i = 0
        · rw [if_pos h4, bgn_one n _ I J i (by omega) 0 (by decide) (by unfold bgnV; rw [if_neg (fun h => h.2 h4)]), hgo]
        · rw [if_neg h4, bgn_one n _ I J i (by omega) 1 (by decide) (by unfold bgnV; rw [if_pos ⟨h3, h4⟩]), hgo]
      · rw [if_neg h3, bgn_one n _ I J i (by omega) 0 (by decide) (by unfold bgnV; rw [if_neg (fun h => h3 h.1)]), hgo]
def bgnF (I : MI) (c : Nat) : MI := upM (upM (bgnS I c) 44 42 0) 44 45 (-1)
theorem begins_eq (n c : Nat) (hn : 32 < n) (hc : c ≤ 32) (I : MI) (J : MJ) (hI : I 44 6 = nI c) : fX10_begins n I J = some (bgnF I c, J) := by
  unfold fX10_begins
  have h := bgn_loop n c hc I J hI n 0 (Nat.zero_le _) (by omega)
  rw [show bgnS I 0 = I from by funext a b; exact if_neg (fun h => by omega)] at h
  exact h
