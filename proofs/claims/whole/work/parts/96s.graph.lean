/-! ways: tiles and joints as a graph, and least sums over it -/
def inc (lo hi : Nat → Nat) (j t o : Nat) : Prop := (lo j = t ∧ hi j = o) ∨ (hi j = t ∧ lo j = o)
theorem inc_sym {lo hi : Nat → Nat} {j t o : Nat} (h : inc lo hi j t o) : inc lo hi j o t := by
  rcases h with ⟨a, b⟩ | ⟨a, b⟩
  · exact Or.inr ⟨b, a⟩
  · exact Or.inl ⟨b, a⟩
def gfs (N M : Nat) (lo hi : Nat → Nat) : Prop := (N ≤ 36 ∧ M ≤ 60) ∧ (∀ j, j < M → lo j < N ∧ hi j < N ∧ lo j ≠ hi j) ∧ (∀ j j' t o, j < M → j' < M → inc lo hi j t o → inc lo hi j' t o → j = j') ∧ ∀ r, r < N → ∃ g : Nat → Nat, (∀ t, t < N → g t ≤ 36) ∧ ∀ t, t < N → t ≠ r → ∃ j o, j < M ∧ inc lo hi j t o ∧ g o < g t
def gfA (N M : Nat) (lo hi : Nat → Nat) (I : MI) : Prop := (∀ t, t < N → ∀ k, k < 4 → I 21 (t * 4 + k) = -1 ∨ ∃ j o, j < M ∧ I 21 (t * 4 + k) = nI j ∧ inc lo hi j t o) ∧ (∀ t, t < N → ∀ j o, j < M → inc lo hi j t o → ∃ k, k < 4 ∧ I 21 (t * 4 + k) = nI j) ∧ ∀ t, t < N → ∀ k k' j j' o o', k < k' → k' < 4 → j < M → j' < M → I 21 (t * 4 + k) = nI j → I 21 (t * 4 + k') = nI j' → inc lo hi j t o → inc lo hi j' t o' → o < o'
def gfC (N M : Nat) (lo hi : Nat → Nat) (I : MI) : Prop := I 16 1 = nI N ∧ I 16 2 = nI M ∧ (∀ j, j < M → I 19 j = nI (lo j) ∧ I 20 j = nI (hi j)) ∧ gfA N M lo hi I
def gfR (n N M : Nat) (lo hi : Nat → Nat) (w h : Nat) : Prop := ∀ (K : MI) (J : MJ), K 44 24 = nI w → K 44 25 = nI h → fX10_tiles n K J = some (nI N, K, J) ∧ fX10_joints n K J = some (nI M, K, J) ∧ ∀ j, j < M → fX10_lesser n (nI j) K J = some (nI (lo j), K, J) ∧ fX10_greater n (nI j) K J = some (nI (hi j), K, J)
def gLo (w h j : Nat) : Nat := if j < h * (w - 1) then j / (w - 1) * w + j % (w - 1) else j - h * (w - 1)
def gHi (w h j : Nat) : Nat := if j < h * (w - 1) then j / (w - 1) * w + j % (w - 1) + 1 else j - h * (w - 1) + w
theorem g_row {w h t : Nat} (w1 : 1 ≤ w) (w2 : w ≤ 6) (ht : t < w * h) (hm : t % w < w - 1) : gLo w h (jr w t) = t ∧ gHi w h (jr w t) = t + 1 := by
  have hlt := jr_lt w1 w2 ht hm
  have e : jr w t / (w - 1) * w + jr w t % (w - 1) = t := by
    unfold jr
    rcases wcs w1 w2 with rfl | rfl | rfl | rfl | rfl | rfl <;> omega
  unfold gLo gHi
  rw [if_pos hlt, if_pos hlt, e]
  exact ⟨rfl, rfl⟩
theorem g_dn {w h t : Nat} : gLo w h (h * (w - 1) + t) = t ∧ gHi w h (h * (w - 1) + t) = t + w := by
  unfold gLo gHi
  rw [if_neg (by omega), if_neg (by omega), Nat.add_sub_cancel_left]
  exact ⟨rfl, rfl⟩
theorem dn_lt {w h t : Nat} (ht : t < w * h - w) : h * (w - 1) + t < jn w h := by unfold jn; omega
theorem rw_lt {w h t : Nat} (w1 : 1 ≤ w) (w2 : w ≤ 6) (ht : t < w * h) (hm : t % w < w - 1) : jr w t < jn w h := by
  have := jr_lt w1 w2 ht hm
  unfold jn
  omega
theorem gr_fs {w h : Nat} (w1 : 1 ≤ w) (w2 : w ≤ 6) (g1 : 1 ≤ h) (g2 : h ≤ 6) : gfs (w * h) (jn w h) (gLo w h) (gHi w h) := by
  refine ⟨⟨wh_le w2 g2, jn_le w1 w2 g2⟩, fun j hj => ?_, fun j j' t o hj hj' h1 h2 => ?_, fun r hr => ?_⟩
  · rcases jn_cases w1 w2 hj with ⟨t, ht, hm, rfl⟩ | ⟨t, ht, rfl⟩
    · rw [(g_row w1 w2 ht hm).1, (g_row w1 w2 ht hm).2]
      refine ⟨ht, ?_, by omega⟩
      rcases wcs w1 w2 with rfl | rfl | rfl | rfl | rfl | rfl <;> omega
    · rw [g_dn.1, g_dn.2]
      omega
  · unfold inc at h1 h2
    rcases jn_cases w1 w2 hj with ⟨s, hs, hm, rfl⟩ | ⟨s, hs, rfl⟩
    · rw [(g_row w1 w2 hs hm).1, (g_row w1 w2 hs hm).2] at h1
      rcases jn_cases w1 w2 hj' with ⟨s', hs', hm', rfl⟩ | ⟨s', hs', rfl⟩
      · rw [(g_row w1 w2 hs' hm').1, (g_row w1 w2 hs' hm').2] at h2
        have : s = s' := by omega
        rw [this]
      · rw [g_dn.1, g_dn.2] at h2
        omega
    · rw [g_dn.1, g_dn.2] at h1
      rcases jn_cases w1 w2 hj' with ⟨s', hs', hm', rfl⟩ | ⟨s', hs', rfl⟩
      · rw [(g_row w1 w2 hs' hm').1, (g_row w1 w2 hs' hm').2] at h2
        omega
      · rw [g_dn.1, g_dn.2] at h2
        omega
  · refine ⟨fun t => (t % w - r % w) + (r % w - t % w) + (t / w - r / w) + (r / w - t / w), fun t ht => ?_, fun t ht hne => ?_⟩
    · show (t % w - r % w) + (r % w - t % w) + (t / w - r / w) + (r / w - t / w) ≤ 36
      rcases wcs w1 w2 with rfl | rfl | rfl | rfl | rfl | rfl <;> omega
    · by_cases c1 : t % w < r % w
      · have hm : t % w < w - 1 := by
          rcases wcs w1 w2 with rfl | rfl | rfl | rfl | rfl | rfl <;> omega
        refine ⟨jr w t, t + 1, rw_lt w1 w2 ht hm, Or.inl (g_row w1 w2 ht hm), ?_⟩
        show ((t + 1) % w - r % w) + (r % w - (t + 1) % w) + ((t + 1) / w - r / w) + (r / w - (t + 1) / w) < (t % w - r % w) + (r % w - t % w) + (t / w - r / w) + (r / w - t / w)
        rcases wcs w1 w2 with rfl | rfl | rfl | rfl | rfl | rfl <;> omega
      · by_cases c2 : r % w < t % w
        · have hm : (t - 1) % w < w - 1 := by
            rcases wcs w1 w2 with rfl | rfl | rfl | rfl | rfl | rfl <;> omega
          have h1 : 1 ≤ t := by
            rcases wcs w1 w2 with rfl | rfl | rfl | rfl | rfl | rfl <;> omega
          have hrow := g_row (h := h) w1 w2 (show t - 1 < w * h by omega) hm
          refine ⟨jr w (t - 1), t - 1, rw_lt w1 w2 (by omega) hm, Or.inr ⟨by rw [hrow.2]; omega, hrow.1⟩, ?_⟩
          show ((t - 1) % w - r % w) + (r % w - (t - 1) % w) + ((t - 1) / w - r / w) + (r / w - (t - 1) / w) < (t % w - r % w) + (r % w - t % w) + (t / w - r / w) + (r / w - t / w)
          rcases wcs w1 w2 with rfl | rfl | rfl | rfl | rfl | rfl <;> omega
        · have ec : t % w = r % w := by omega
          by_cases c3 : t / w < r / w
          · have hlt : t < w * h - w := by
              rcases wcs w1 w2 with rfl | rfl | rfl | rfl | rfl | rfl <;> omega
            refine ⟨h * (w - 1) + t, t + w, dn_lt hlt, Or.inl g_dn, ?_⟩
            show ((t + w) % w - r % w) + (r % w - (t + w) % w) + ((t + w) / w - r / w) + (r / w - (t + w) / w) < (t % w - r % w) + (r % w - t % w) + (t / w - r / w) + (r / w - t / w)
            rcases wcs w1 w2 with rfl | rfl | rfl | rfl | rfl | rfl <;> omega
          · have hwt : w ≤ t := by
              rcases wcs w1 w2 with rfl | rfl | rfl | rfl | rfl | rfl <;> omega
            refine ⟨h * (w - 1) + (t - w), t - w, dn_lt (by omega), Or.inr ⟨by rw [g_dn.2]; omega, g_dn.1⟩, ?_⟩
            show ((t - w) % w - r % w) + (r % w - (t - w) % w) + ((t - w) / w - r / w) + (r / w - (t - w) / w) < (t % w - r % w) + (r % w - t % w) + (t / w - r / w) + (r / w - t / w)
            rcases wcs w1 w2 with rfl | rfl | rfl | rfl | rfl | rfl <;> omega
theorem gr_R (n : Nat) {w h : Nat} (w1 : 1 ≤ w) (w2 : w ≤ 6) (g1 : 1 ≤ h) (g2 : h ≤ 6) : gfR n (w * h) (jn w h) (gLo w h) (gHi w h) w h := by
  intro K J e24 e25
  refine ⟨by rw [tiles_eq, e24, e25, pk_mul], by rw [joints_eq, jnt_eq w1 g1 e24 e25], fun j hj => ?_⟩
  rcases jn_cases w1 w2 hj with ⟨t, ht, hm, rfl⟩ | ⟨t, ht, rfl⟩
  · rw [(g_row w1 w2 ht hm).1, (g_row w1 w2 ht hm).2]
    exact ⟨lesser_row n w1 w2 g1 g2 e24 e25 ht hm, greater_row n w1 w2 g1 g2 e24 e25 ht hm⟩
  · rw [g_dn.1, g_dn.2]
    exact ⟨lesser_dn n w1 w2 g2 e24 e25 ht, greater_dn n w1 w2 g2 e24 e25 ht⟩
theorem nI_m1 {j : Nat} (h : j < 2 ^ 31) : ¬ nI j = -1 := fun z => by
  have := nI_pos' h
  rw [z] at this
  exact absurd this (by decide)
theorem gr_C {w h r k : Nat} (w1 : 1 ≤ w) (w2 : w ≤ 6) (g1 : 1 ≤ h) (g2 : h ≤ 6) {I : MI} (hg : grOk w h r k I) : gfC (w * h) (jn w h) (gLo w h) (gHi w h) I := by
  obtain ⟨-, e1, -, -, e2, r2, r4, ar⟩ := hg
  have hM := jn_le w1 w2 g2
  have hN := wh_le w2 g2
  have ww := wh_w (w := w) g1
  /- which joint stands at each of the four places -/
  have at0' : ∀ t, t < w * h → I 21 (t * 4 + 0) = -1 ∨ (w ≤ t ∧ I 21 (t * 4 + 0) = nI (h * (w - 1) + (t - w))) := fun t ht => by
    have := (ar t (by omega)).2.2.1
    by_cases q : w ≤ t ∧ t - w < w * h - w
    · rw [if_pos q] at this; exact Or.inr ⟨q.1, this⟩
    · rw [if_neg q] at this; exact Or.inl this
  have at1' : ∀ t, t < w * h → I 21 (t * 4 + 1) = -1 ∨ (1 ≤ t ∧ (t - 1) % w < w - 1 ∧ I 21 (t * 4 + 1) = nI (jr w (t - 1))) := fun t ht => by
    have := (ar t (by omega)).2.1
    by_cases q : 1 ≤ t ∧ t - 1 < w * h ∧ (t - 1) % w < w - 1
    · rw [if_pos q] at this; exact Or.inr ⟨q.1, q.2.2, this⟩
    · rw [if_neg q] at this; exact Or.inl this
  have at2' : ∀ t, t < w * h → I 21 (t * 4 + 2) = -1 ∨ (t % w < w - 1 ∧ I 21 (t * 4 + 2) = nI (jr w t)) := fun t ht => by
    have := (ar t (by omega)).1
    by_cases q : t < w * h ∧ t % w < w - 1
    · rw [if_pos q] at this; exact Or.inr ⟨q.2, this⟩
    · rw [if_neg q] at this; exact Or.inl this
  have at3' : ∀ t, t < w * h → I 21 (t * 4 + 3) = -1 ∨ (t < w * h - w ∧ I 21 (t * 4 + 3) = nI (h * (w - 1) + t)) := fun t ht => by
    have := (ar t (by omega)).2.2.2
    by_cases q : t < w * h - w
    · rw [if_pos q] at this; exact Or.inr ⟨q, this⟩
    · rw [if_neg q] at this; exact Or.inl this
  /- the neighbour behind each place -/
  have nb0 : ∀ t j o, t < w * h → j < jn w h → I 21 (t * 4 + 0) = nI j → inc (gLo w h) (gHi w h) j t o → w ≤ t ∧ o = t - w := fun t j o ht hj he hi => by
    rcases at0' t ht with q | ⟨q1, q2⟩
    · exact absurd (he.symm.trans q) (nI_m1 (by omega))
    · have hj' := dn_lt (w := w) (h := h) (t := t - w) (by omega)
      obtain rfl : j = h * (w - 1) + (t - w) := (nI_eq (by omega) (by omega)).mp (he.symm.trans q2)
      unfold inc at hi
      rw [g_dn.1, g_dn.2] at hi
      omega
  have nb1 : ∀ t j o, t < w * h → j < jn w h → I 21 (t * 4 + 1) = nI j → inc (gLo w h) (gHi w h) j t o → 1 ≤ t ∧ 2 ≤ w ∧ o = t - 1 := fun t j o ht hj he hi => by
    rcases at1' t ht with q | ⟨q1, q2, q3⟩
    · exact absurd (he.symm.trans q) (nI_m1 (by omega))
    · have hj' := rw_lt (h := h) w1 w2 (show t - 1 < w * h by omega) q2
      obtain rfl : j = jr w (t - 1) := (nI_eq (by omega) (by omega)).mp (he.symm.trans q3)
      have hrow := g_row (h := h) w1 w2 (show t - 1 < w * h by omega) q2
      unfold inc at hi
      rw [hrow.1, hrow.2] at hi
      omega
  have nb2 : ∀ t j o, t < w * h → j < jn w h → I 21 (t * 4 + 2) = nI j → inc (gLo w h) (gHi w h) j t o → 2 ≤ w ∧ o = t + 1 := fun t j o ht hj he hi => by
    rcases at2' t ht with q | ⟨q2, q3⟩
    · exact absurd (he.symm.trans q) (nI_m1 (by omega))
    · have hj' := rw_lt (h := h) w1 w2 ht q2
      obtain rfl : j = jr w t := (nI_eq (by omega) (by omega)).mp (he.symm.trans q3)
      have hrow := g_row (h := h) w1 w2 ht q2
      unfold inc at hi
      rw [hrow.1, hrow.2] at hi
      omega
  have nb3 : ∀ t j o, t < w * h → j < jn w h → I 21 (t * 4 + 3) = nI j → inc (gLo w h) (gHi w h) j t o → o = t + w := fun t j o ht hj he hi => by
    rcases at3' t ht with q | ⟨q2, q3⟩
    · exact absurd (he.symm.trans q) (nI_m1 (by omega))
    · have hj' := dn_lt (w := w) (h := h) q2
      obtain rfl : j = h * (w - 1) + t := (nI_eq (by omega) (by omega)).mp (he.symm.trans q3)
      unfold inc at hi
      rw [g_dn.1, g_dn.2] at hi
      omega
  refine ⟨e1, e2, fun j hj => ?_, fun t ht k hk => ?_, fun t ht j o hj hi => ?_, fun t ht k k' j j' o o' hk hk' hj hj' he he' hi hi' => ?_⟩
  · rcases jn_cases w1 w2 hj with ⟨t, ht, hm, rfl⟩ | ⟨t, ht, rfl⟩
    · rw [(g_row w1 w2 ht hm).1, (g_row w1 w2 ht hm).2]; exact r2 t ht hm
    · rw [g_dn.1, g_dn.2]; exact r4 t ht
  · have hk4 : k = 0 ∨ k = 1 ∨ k = 2 ∨ k = 3 := by omega
    rcases hk4 with rfl | rfl | rfl | rfl
    · rcases at0' t ht with q | ⟨q1, q2⟩
      · exact Or.inl q
      · exact Or.inr ⟨_, t - w, dn_lt (by omega), q2, Or.inr ⟨by rw [g_dn.2]; omega, g_dn.1⟩⟩
    · rcases at1' t ht with q | ⟨q1, q2, q3⟩
      · exact Or.inl q
      · have hrow := g_row (h := h) w1 w2 (show t - 1 < w * h by omega) q2
        exact Or.inr ⟨_, t - 1, rw_lt w1 w2 (by omega) q2, q3, Or.inr ⟨by rw [hrow.2]; omega, hrow.1⟩⟩
    · rcases at2' t ht with q | ⟨q2, q3⟩
      · exact Or.inl q
      · exact Or.inr ⟨_, t + 1, rw_lt w1 w2 ht q2, q3, Or.inl (g_row w1 w2 ht q2)⟩
    · rcases at3' t ht with q | ⟨q2, q3⟩
      · exact Or.inl q
      · exact Or.inr ⟨_, t + w, dn_lt q2, q3, Or.inl g_dn⟩
  · unfold inc at hi
    rcases jn_cases w1 w2 hj with ⟨s, hs, hm, rfl⟩ | ⟨s, hs, rfl⟩
    · rw [(g_row w1 w2 hs hm).1, (g_row w1 w2 hs hm).2] at hi
      rcases hi with ⟨rfl, -⟩ | ⟨q, -⟩
      · have := (ar s (by omega)).1
        rw [if_pos ⟨hs, hm⟩] at this
        exact ⟨2, by decide, this⟩
      · have := (ar t (by omega)).2.1
        have es : t - 1 = s := by omega
        rw [es, if_pos ⟨by omega, hs, hm⟩] at this
        exact ⟨1, by decide, this⟩
    · rw [g_dn.1, g_dn.2] at hi
      rcases hi with ⟨rfl, -⟩ | ⟨q, -⟩
      · have := (ar s (by omega)).2.2.2
        rw [if_pos hs] at this
        exact ⟨3, by decide, this⟩
      · have := (ar t (by omega)).2.2.1
        have es : t - w = s := by omega
        rw [es, if_pos ⟨by omega, hs⟩] at this
        exact ⟨0, by decide, this⟩
  · have hkk : (k = 0 ∧ k' = 1) ∨ (k = 0 ∧ k' = 2) ∨ (k = 0 ∧ k' = 3) ∨ (k = 1 ∧ k' = 2) ∨ (k = 1 ∧ k' = 3) ∨ (k = 2 ∧ k' = 3) := by omega
    rcases hkk with ⟨rfl, rfl⟩ | ⟨rfl, rfl⟩ | ⟨rfl, rfl⟩ | ⟨rfl, rfl⟩ | ⟨rfl, rfl⟩ | ⟨rfl, rfl⟩
    · have q1 := nb0 t j o ht hj he hi
      have q2 := nb1 t j' o' ht hj' he' hi'
      omega
    · have q1 := nb0 t j o ht hj he hi
      have q2 := nb2 t j' o' ht hj' he' hi'
      omega
    · have q1 := nb0 t j o ht hj he hi
      have q2 := nb3 t j' o' ht hj' he' hi'
      omega
    · have q1 := nb1 t j o ht hj he hi
      have q2 := nb2 t j' o' ht hj' he' hi'
      omega
    · have q1 := nb1 t j o ht hj he hi
      have q2 := nb3 t j' o' ht hj' he' hi'
      omega
    · have q1 := nb2 t j o ht hj he hi
      have q2 := nb3 t j' o' ht hj' he' hi'
      omega
/-! least sums -/
def isD (N M : Nat) (lo hi : Nat → Nat) (A : Nat → Prop) (p : Nat → Nat) (S : Nat → Prop) (F : Nat) (d : Nat → Nat) : Prop := (∀ t, t < N → S t → d t = 0) ∧ (∀ t, t < N → d t ≤ F) ∧ (∀ j, j < M → A j → ∀ t o, inc lo hi j t o → d t ≤ d o + p j) ∧ ∀ t, t < N → ¬ S t → d t < F → ∃ j o, j < M ∧ A j ∧ inc lo hi j t o ∧ d t = d o + p j
def sumf (f : Nat → Nat) : Nat → Nat
  | 0 => 0
  | k + 1 => sumf f k + f k
def upf (f : Nat → Nat) (t v : Nat) : Nat → Nat := fun s => if s = t then v else f s
theorem upf_t (f : Nat → Nat) (t v : Nat) : upf f t v t = v := if_pos rfl
theorem upf_n {f : Nat → Nat} {t v s : Nat} (h : s ≠ t) : upf f t v s = f s := if_neg h
theorem sumf_up (f : Nat → Nat) (t v : Nat) : ∀ k, (k ≤ t → sumf (upf f t v) k = sumf f k) ∧ (t < k → sumf (upf f t v) k + f t = sumf f k + v) := by
  intro k
  induction k with
  | zero => exact ⟨fun _ => rfl, fun h => absurd h (Nat.not_lt_zero _)⟩
  | succ k ih =>
    have e1 : sumf (upf f t v) (k + 1) = sumf (upf f t v) k + upf f t v k := rfl
    have e2 : sumf f (k + 1) = sumf f k + f k := rfl
    rw [e1, e2]
    refine ⟨fun h => ?_, fun h => ?_⟩
    · rw [ih.1 (by omega), upf_n (by omega)]
    · by_cases q : k = t
      · subst q
        have := ih.1 (Nat.le_refl _)
        rw [upf_t, this]; omega
      · have := ih.2 (by omega)
        rw [upf_n q]; omega
/-- what is at least as far as a way shows -/
def isU (N M : Nat) (lo hi : Nat → Nat) (A : Nat → Prop) (p : Nat → Nat) (S : Nat → Prop) (F : Nat) (f : Nat → Nat) : Prop := (∀ t, t < N → S t → f t = 0) ∧ (∀ t, t < N → f t ≤ F) ∧ ∀ t, t < N → ¬ S t → f t < F → ∃ j o, j < M ∧ A j ∧ inc lo hi j t o ∧ f o + p j ≤ f t
theorem inc_N {N M : Nat} {lo hi : Nat → Nat} (hg : ∀ j, j < M → lo j < N ∧ hi j < N ∧ lo j ≠ hi j) {j t o : Nat} (hj : j < M) (h : inc lo hi j t o) : t < N ∧ o < N ∧ t ≠ o := by
  have := hg j hj
  rcases h with ⟨rfl, rfl⟩ | ⟨rfl, rfl⟩
  · exact this
  · exact ⟨this.2.1, this.1, Ne.symm this.2.2⟩
theorem isD_of {N M : Nat} {lo hi : Nat → Nat} {A : Nat → Prop} {p : Nat → Nat} {S : Nat → Prop} {F : Nat} (hg : ∀ j, j < M → lo j < N ∧ hi j < N ∧ lo j ≠ hi j) : ∀ s f, sumf f N ≤ s → isU N M lo hi A p S F f → ∃ d, isD N M lo hi A p S F d := by
  intro s
  induction s with
  | zero =>
    intro f hs hU
    refine ⟨f, hU.1, hU.2.1, fun j hj hA t o hi => ?_, fun t ht hS hF => ?_⟩
    · have ht := (inc_N hg hj hi).1
      have := (sumf_up f t 0 N).2 ht
      omega
    · obtain ⟨j, o, q1, q2, q3, q4⟩ := hU.2.2 t ht hS hF
      have := (sumf_up f t 0 N).2 ht
      exact ⟨j, o, q1, q2, q3, by omega⟩
  | succ s ih =>
    intro f hs hU
    by_cases hT : ∀ j, j < M → A j → ∀ t o, inc lo hi j t o → f t ≤ f o + p j
    · refine ⟨f, hU.1, hU.2.1, hT, fun t ht hS hF => ?_⟩
      obtain ⟨j, o, q1, q2, q3, q4⟩ := hU.2.2 t ht hS hF
      exact ⟨j, o, q1, q2, q3, by have := hT j q1 q2 t o q3; omega⟩
    · have hex : ∃ j t o, j < M ∧ A j ∧ inc lo hi j t o ∧ f o + p j < f t := by
        refine Classical.byContradiction (fun hn => hT (fun j hj hA t o hi => Classical.byContradiction (fun hlt => hn ⟨j, t, o, hj, hA, hi, by omega⟩)))
      obtain ⟨j, t, o, hj, hA, hi, hlt⟩ := hex
      obtain ⟨ht, ho, hne⟩ := inc_N hg hj hi
      have hsum := (sumf_up f t (f o + p j) N).2 ht
      have hle : ∀ x, upf f t (f o + p j) x ≤ f x := fun x => by
        by_cases q : x = t
        · rw [q, upf_t]; omega
        · rw [upf_n q]; exact Nat.le_refl _
      refine ih (upf f t (f o + p j)) (by omega) ⟨fun x hx hS => ?_, fun x hx => ?_, fun x hx hS hF => ?_⟩
      · have := hle x
        have := hU.1 x hx hS
        omega
      · have := hle x
        have := hU.2.1 x hx
        omega
      · by_cases q : x = t
        · subst q
          exact ⟨j, o, hj, hA, hi, by rw [upf_t, upf_n (Ne.symm hne)]; exact Nat.le_refl _⟩
        · rw [upf_n q] at hF ⊢
          obtain ⟨j', o', q1, q2, q3, q4⟩ := hU.2.2 x hx hS hF
          exact ⟨j', o', q1, q2, q3, by have := hle o'; omega⟩
theorem isD_ex {N M : Nat} {lo hi : Nat → Nat} {A : Nat → Prop} {p : Nat → Nat} (S : Nat → Prop) (F : Nat) (hg : ∀ j, j < M → lo j < N ∧ hi j < N ∧ lo j ≠ hi j) : ∃ d, isD N M lo hi A p S F d := by
  classical
  refine isD_of hg _ (fun t => if S t then 0 else F) (Nat.le_refl _) ⟨fun t _ hS => if_pos hS, fun t _ => ?_, fun t _ hS hF => ?_⟩
  · show (if S t then 0 else F) ≤ F
    split <;> omega
  · have : (fun t => if S t then 0 else F) t = F := if_neg hS
    omega
/-- whoever keeps the joints' bounds is no farther -/
theorem tri_le {N M : Nat} {lo hi : Nat → Nat} {A : Nat → Prop} {p : Nat → Nat} {S : Nat → Prop} {F : Nat} {d f : Nat → Nat} (hg : ∀ j, j < M → lo j < N ∧ hi j < N ∧ lo j ≠ hi j) (hp : ∀ j, j < M → A j → 1 ≤ p j) (hD : isD N M lo hi A p S F d) (hz : ∀ t, t < N → S t → f t = 0) (ht : ∀ j, j < M → A j → ∀ t o, inc lo hi j t o → f t ≤ f o + p j) : ∀ k t, t < N → d t < F → d t < k → f t ≤ d t := by
  intro k
  induction k with
  | zero => intro t _ _ h; omega
  | succ k ih =>
    intro t htN hF hk
    by_cases hS : S t
    · rw [hz t htN hS]; exact Nat.zero_le _
    · obtain ⟨j, o, q1, q2, q3, q4⟩ := hD.2.2.2 t htN hS hF
      have h1 := hp j q1 q2
      have h2 := ih o (inc_N hg q1 q3).2.1 (by omega) (by omega)
      have h3 := ht j q1 q2 t o q3
      omega
/-- and no nearer than any way -/
theorem low_le {N M : Nat} {lo hi : Nat → Nat} {A : Nat → Prop} {p : Nat → Nat} {S : Nat → Prop} {F : Nat} {d f : Nat → Nat} (hg : ∀ j, j < M → lo j < N ∧ hi j < N ∧ lo j ≠ hi j) (hp : ∀ j, j < M → A j → 1 ≤ p j) (hD : isD N M lo hi A p S F d) (hU : ∀ t, t < N → ¬ S t → f t < F → ∃ j o, j < M ∧ A j ∧ inc lo hi j t o ∧ f o + p j ≤ f t) : ∀ k t, t < N → f t < k → d t ≤ f t := by
  intro k
  induction k with
  | zero => intro t _ h; omega
  | succ k ih =>
    intro t htN hk
    by_cases hS : S t
    · rw [hD.1 t htN hS]; exact Nat.zero_le _
    · by_cases hF : f t < F
      · obtain ⟨j, o, q1, q2, q3, q4⟩ := hU t htN hS hF
        have h1 := hp j q1 q2
        have h2 := ih o (inc_N hg q1 q3).2.1 (by omega)
        have h3 := hD.2.2.1 j q1 q2 t o q3
        omega
      · have := hD.2.1 t htN
        omega
/-- how many lie nearer -/
def rkD (N : Nat) (d : Nat → Nat) (t : Nat) : Nat := ct_cnt (fun s => decide (d s < d t)) N
theorem cnt_sub {P Q : Nat → Bool} {a : Nat} : ∀ c, (∀ i, i < c → P i = true → Q i = true) → (a < c → Q a = true → ¬ P a = true → ct_cnt P c + 1 ≤ ct_cnt Q c) ∧ ct_cnt P c ≤ ct_cnt Q c := by
  intro c
  induction c with
  | zero => intro _; exact ⟨fun h => absurd h (Nat.not_lt_zero _), Nat.le_refl _⟩
  | succ c ih =>
    intro h
    obtain ⟨i1, i2⟩ := ih (fun i hi => h i (by omega))
    have hc := h c (by omega)
    have e1 : ct_cnt P (c + 1) = if P c = true then ct_cnt P c + 1 else ct_cnt P c := rfl
    have e2 : ct_cnt Q (c + 1) = if Q c = true then ct_cnt Q c + 1 else ct_cnt Q c := rfl
    rw [e1, e2]
    refine ⟨fun ha hq hp => ?_, ?_⟩
    · by_cases q : a = c
      · subst q
        rw [if_neg hp, if_pos hq]; omega
      · have := i1 (by omega) hq hp
        by_cases z : P c = true
        · rw [if_pos z, if_pos (hc z)]; omega
        · rw [if_neg z]; split <;> omega
    · by_cases z : P c = true
      · rw [if_pos z, if_pos (hc z)]; omega
      · rw [if_neg z]; split <;> omega
theorem rkD_lt {N : Nat} {d : Nat → Nat} {t o : Nat} (ho : o < N) (h : d o < d t) : rkD N d o < rkD N d t := by
  have := (cnt_sub (P := fun s => decide (d s < d o)) (Q := fun s => decide (d s < d t)) (a := o) N (fun i _ hi => decide_eq_true (by have := of_decide_eq_true hi; omega))).1 ho (decide_eq_true h) (by simp)
  exact this
theorem rkD_le (N : Nat) (d : Nat → Nat) (t : Nat) : rkD N d t ≤ N := ct_cnt_le _ N
