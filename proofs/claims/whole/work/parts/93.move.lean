/-! move -/
theorem roomLeft_eq (n : Nat) (hn : 2400 < n) {t k : Nat} (hk : k ≤ 32) (ht : t < 36) (I : MI) (J : MJ) : fX10_roomLeft n (nI t) (nI k) I J = some (if I 60 t = 0 then I 44 26 - nI (ct_cnt (fun i => decide (thg I i ∧ I 61 i = nI t)) k) else 0, I, J) := by
  have l : ∀ X0 : Int32, ∀ q j, j ≤ k → k < q + j → lX10_roomLeft_21 n q (nI t) (nI k) (if I 60 t = 0 then X0 - nI (ct_cnt (fun i => decide (thg I i ∧ I 61 i = nI t)) j) else X0) (nI j) I J = some (if I 60 t = 0 then X0 - nI (ct_cnt (fun i => decide (thg I i ∧ I 61 i = nI t)) k) else X0, I, J) := by
    intro X0 q
    induction q with
    | zero => intro j h1 h2; omega
    | succ q ih =>
      intro j h1 h2
      have e : ∀ x, lX10_roomLeft_21 n (q + 1) (nI t) (nI k) x (nI j) I J = fX10_roomLeft_21 n (lX10_roomLeft_21 n q) (nI t) (nI k) x (nI j) I J := fun _ => rfl
      rw [e]
      unfold fX10_roomLeft_21 fX10_roomLeft_61 fX10_roomLeft_62
      by_cases hj : j = k
      · subst hj
        rw [if_pos (Int32.le_refl _)]
      rw [if_neg (nI_ge (by omega) (by omega)), isThing_eq n (by omega), nI_1]
      simp only [Option.bind_some, lt]
      have ih' := ih (j + 1) (by omega) (by omega)
      have e2 : ct_cnt (fun i => decide (thg I i ∧ I 61 i = nI t)) (j + 1) = if decide (thg I j ∧ I 61 j = nI t) = true then ct_cnt (fun i => decide (thg I i ∧ I 61 i = nI t)) j + 1 else ct_cnt (fun i => decide (thg I i ∧ I 61 i = nI t)) j := rfl
      have same : (¬ (thg I j ∧ I 61 j = nI t) ∨ ¬ I 60 t = 0) → (if I 60 t = 0 then X0 - nI (ct_cnt (fun i => decide (thg I i ∧ I 61 i = nI t)) j) else X0) - 0 = (if I 60 t = 0 then X0 - nI (ct_cnt (fun i => decide (thg I i ∧ I 61 i = nI t)) (j + 1)) else X0) := by
        intro hh
        rw [Int32.sub_zero]
        by_cases h60 : I 60 t = 0
        · rw [if_pos h60, if_pos h60, e2, if_neg (fun q => (hh.resolve_right (fun z => z h60)) (of_decide_eq_true q))]
        · rw [if_neg h60, if_neg h60]
      by_cases hth : thg I j
      · rw [b2_t hth, if_neg (by decide), if_pos (inb_nI (by omega) (by decide)), clampI (by omega)]
        by_cases h61 : I 61 j = nI t
        · rw [if_pos h61, if_pos (inb_nI (by omega) (by decide)), clampI (by omega)]
          by_cases h60 : I 60 t = 0
          · rw [if_pos h60]
            rw [if_pos h60, e2, if_pos (decide_eq_true ⟨hth, h61⟩)] at ih'
            rw [if_pos h60, Int32.sub_sub, nI_1]
            exact ih'
          · rw [if_neg h60, same (Or.inr h60)]
            exact ih'
        · rw [if_neg h61, same (Or.inl (fun q => h61 q.2))]
          exact ih'
      · rw [b2_f hth, if_pos rfl, same (Or.inl (fun q => hth q.1))]
        exact ih'
  have z : ct_cnt (fun i => decide (thg I i ∧ I 61 i = nI t)) 0 = 0 := rfl
  unfold fX10_roomLeft fX10_roomLeft_17
  rw [if_pos (inb_nI ht (by decide)), clampI (by omega)]
  by_cases h60 : I 60 t = 0
  · have := l (I 44 26) n 0 (Nat.zero_le _) (by omega)
    rw [if_pos h60, if_pos h60, z, show nI 0 = (0 : Int32) from rfl, Int32.sub_zero] at this
    rw [if_pos h60, if_pos h60]
    exact this
  · have := l 0 n 0 (Nat.zero_le _) (by omega)
    rw [if_neg h60, if_neg h60] at this
    rw [if_neg h60, if_neg h60]
    exact this
theorem B_move_ok (n : Nat) (hn : 2400 < n) : B_move Inv n := by
  intro x y m I J hI
  obtain ⟨pr, pq, pf, c, ni, nk, no, pn, ⟨pu, pg, pw, pp, pfr, pe⟩⟩ := id hI
  obtain ⟨w, h, r, k, ⟨w1, w2, g1, g2, o1, o2, c1, c2⟩, ⟨e24, e25, e26, e27⟩, hgr, hb01, hbz, hbl⟩ := pg
  have hwh := wh_le w2 g2
  have hc := pn.1.1
  have h5 := pn.2.1.1
  have h6 := pn.2.1.2.1
  have h01 := pf.2.1.2.1
  have u44 : ∀ (j : Nat) (v : Int32), upM I 43 j v 44 = I 44 := fun j v => up43 (by decide)
  have uth : ∀ (j : Nat) (v : Int32) (i : Nat), thg (upM I 43 j v) i ↔ thg I i := fun j v i => by unfold thg; rw [up43 (show (45 : Nat) ≠ 43 by decide), up43 (show (55 : Nat) ≠ 43 by decide)]
  have bad : (¬ (∃ o, o < c ∧ x = nI o) ∨ ¬ (∃ o, o < w * h ∧ y = nI o)) → tot (fX9_move_22 n I J) (fun r => tot (fX10_move n x y r.2.1 r.2.2) (fun q => r.1 = q.1 ∧ Inv m q.2.1 q.2.2)) := by
    intro hh
    unfold fX9_move_22
    rw [ref_3]
    refine rr (j := 1) (f := fX10_move n x y) (by decide) hI ?_
    unfold fX10_move fX10_move_16 fX10_move_26
    by_cases hx : ∃ o, o < c ∧ x = nI o
    · obtain ⟨a, ha, rfl⟩ := hx
      rw [isCell_yes (c := c) (by omega) (by rw [u44]; exact h6) ha]
      simp only [Option.bind_some]
      rw [if_neg (by decide), isTile_no (w := w) (h := h) (by omega) (by rw [u44]; exact e24) (by rw [u44]; exact e25) (hh.resolve_left (fun q => q ⟨a, ha, rfl⟩))]
      simp only [Option.bind_some, if_true]
      rw [if_neg (by decide), no_3]
      rfl
    · rw [isCell_no (c := c) (by omega) (by rw [u44]; exact h6) hx]
      simp only [Option.bind_some, if_true]
      rw [if_neg (by decide), no_3]
      rfl
  unfold fX9_move
  by_cases hx : ∃ o, o < c ∧ x = nI o
  case neg =>
    rw [has_no (c := c) (by omega) h5 hx]
    simp only [Option.bind_some, if_true]
    exact bad (Or.inl hx)
  obtain ⟨a, ha, rfl⟩ := hx
  rw [has_yes (c := c) (by omega) h5 ha]
  simp only [Option.bind_some]
  rw [if_neg (by decide)]
  by_cases hy : ∃ o, o < w * h ∧ y = nI o
  case neg =>
    rw [tile_no (T := w * h) (by omega) hgr.2.1 hy]
    simp only [Option.bind_some, if_true]
    exact bad (Or.inr hy)
  obtain ⟨t, ht, rfl⟩ := hy
  rw [tile_yes (T := w * h) (by omega) hgr.2.1 ht]
  simp only [Option.bind_some]
  rw [if_neg (by decide), holds_thg ha hc pf pp]
  simp only [Option.bind_some]
  have hM : ∀ I' : MI, I' 44 = I 44 → (∀ i, thg I' i ↔ thg I i) → fX10_move n (nI a) (nI t) I' J = fX10_move_26 n (nI a) (nI t) (if I 44 12 = 1 ∧ thg I a then 0 else -2) I' J := by
    intro I' q1 q2
    unfold fX10_move
    rw [isCell_yes (c := c) (by omega) (by rw [q1]; exact h6) ha]
    simp only [Option.bind_some]
    rw [if_neg (by decide), isTile_yes (w := w) (h := h) (by omega) (by rw [q1]; exact e24) (by rw [q1]; exact e25) ht]
    simp only [Option.bind_some]
    rw [if_neg (by decide), whyNo_eq n hc ha _ J (by rw [q1]; exact h6) (by rw [q1]; exact h01)]
    simp only [Option.bind_some]
    by_cases q : I 44 12 = 1 ∧ thg I a
    · rw [if_pos q, if_pos (show I' 44 12 = 1 ∧ thg I' a from ⟨by rw [q1]; exact q.1, (q2 a).mpr q.2⟩)]
    · rw [if_neg q, if_neg (show ¬ (I' 44 12 = 1 ∧ thg I' a) from fun z => q ⟨by rw [← q1]; exact z.1, (q2 a).mp z.2⟩)]
  by_cases qa : I 44 12 = 1 ∧ thg I a
  case neg =>
    rw [b2_f qa, if_pos rfl, ref_2]
    simp only [Option.bind_some]
    refine rr (j := 0) (f := fX10_move n (nI a) (nI t)) (by decide) hI ?_
    rw [hM _ (u44 _ _) (uth _ _), if_neg qa]
    unfold fX10_move_26
    rw [if_neg (by decide), no_2]
    rfl
  obtain ⟨h12, hta⟩ := qa
  obtain ⟨τ, t1, t2, t3, t4⟩ := sctx pn pf pp pe h12
  obtain ⟨s1, s2, s3, s4, s5, s6⟩ := pe.2.2.1 h12
  obtain ⟨a1, a2, a3, a4⟩ := t1 a ha hta
  have hMy : ∀ I' : MI, I' 44 = I 44 → (∀ i, thg I' i ↔ thg I i) → fX10_move n (nI a) (nI t) I' J = fX10_move_26 n (nI a) (nI t) 0 I' J := fun I' q1 q2 => by rw [hM I' q1 q2, if_pos ⟨h12, hta⟩]
  rw [b2_t ⟨h12, hta⟩, if_neg (by decide), if_pos (inb_nI (by omega) (by decide)), clampI (by omega), a2]
  simp only [lt]
  by_cases hat : τ a = t
  · rw [if_pos (by rw [hat])]
    refine tot_some.mpr ?_
    show tot (fX10_move n (nI a) (nI t) I J) _
    rw [hMy I rfl (fun _ => Iff.rfl)]
    unfold fX10_move_26
    rw [if_pos rfl, if_pos (inb_nI (by omega) (by decide)), clampI (by omega), a1]
    simp only [lt]
    rw [if_pos (by rw [hat])]
    exact tot_some.mpr ⟨rfl, Inv_dec m I J hI⟩
  have hne : ¬ nI (τ a) = nI t := fun q => hat ((nI_eq (by omega) (by omega)).mp q)
  rw [if_neg hne]
  have ht36 : t < 36 := by omega
  obtain ⟨l1, l2⟩ := s4 t ht36
  have hroom : fX5_hasRoom n (nI t) I J = some (b2 (I 60 t = 0 ∧ ld I c t < r), I, J) := by
    unfold fX5_hasRoom
    rw [if_pos (inb_nI ht36 (by decide)), roomOf_eq n (by omega), clampI (by omega), hgr.2.2.1, l1]
    simp only [Option.bind_some]
    by_cases hb : bl (J 16 9) t = true
    · have : I 60 t = 1 := by
        have := hbl t (by omega)
        rw [hb] at this
        exact (of_decide_eq_true this.symm).2
      rw [if_pos hb, if_pos (nI_pos' (by omega)), b2_f (fun q => by rw [this] at q; exact absurd q.1 (by decide))]
    · have h60 : I 60 t = 0 := by
        rcases hb01 t ht36 with q | q
        · exact q
        · exact absurd (by rw [hbl t (by omega)]; exact decide_eq_true ⟨ht36, q⟩) hb
      rw [if_neg hb]
      by_cases q : r ≤ ld I c t
      · rw [if_pos (nI_le q (by omega)), b2_f (fun z => by omega)]
      · rw [if_neg (nI_ge (by omega) (by omega)), b2_t ⟨h60, by omega⟩]
  have hleft : ∀ I' : MI, I' 44 = I 44 → I' 45 = I 45 → I' 55 = I 55 → I' 60 = I 60 → I' 61 = I 61 → fX10_roomLeft n (nI t) (I' 44 6) I' J = some (if I 60 t = 0 then nI r - nI (ld I c t) else 0, I', J) := by
    intro I' q1 q2 q3 q4 q5
    rw [q1, h6, roomLeft_eq n hn hc ht36 I' J, q4, q1, e26]
    have : ct_cnt (fun i => decide (thg I' i ∧ I' 61 i = nI t)) c = ld I c t := by
      unfold ld thg
      rw [q2, q3, q5]
    rw [this]
  have hpos : (0 < (if I 60 t = 0 then nI r - nI (ld I c t) else (0 : Int32))) ↔ (I 60 t = 0 ∧ ld I c t < r) := by
    by_cases h60 : I 60 t = 0
    · rw [if_pos h60, Int32.lt_iff_toInt_lt, pk_sub_toInt (by omega) (by omega), show (0 : Int32).toInt = 0 from by decide]
      constructor
      · intro q; exact ⟨h60, by omega⟩
      · intro q; have := q.2; omega
    · rw [if_neg h60]
      exact ⟨fun q => absurd q (by decide), fun q => absurd q.1 h60⟩
  rw [hroom]
  simp only [Option.bind_some]
  by_cases hrm : I 60 t = 0 ∧ ld I c t < r
  case neg =>
    rw [b2_f hrm, if_pos rfl, ref_8]
    simp only [Option.bind_some]
    refine rr (j := 6) (f := fX10_move n (nI a) (nI t)) (by decide) hI ?_
    rw [hMy _ (u44 _ _) (uth _ _)]
    unfold fX10_move_26
    rw [if_pos rfl, if_pos (inb_nI (by omega) (by decide)), clampI (by omega), up43 (show (61 : Nat) ≠ 43 by decide), a1]
    simp only [lt]
    rw [if_neg hne, hleft _ (up43 (by decide)) (up43 (by decide)) (up43 (by decide)) (up43 (by decide)) (up43 (by decide))]
    simp only [Option.bind_some]
    rw [if_neg (fun q => hrm (hpos.mp q)), no_8]
    rfl
  rw [b2_t hrm, if_neg (by decide)]
  obtain ⟨lb1, lb2⟩ := s4 (τ a) a3
  have hcar : fX5_carryOver n (nI a) (nI t) I J = some (upM (upM (upM I 25 (τ a) (I 25 (τ a) - 1)) 25 t (upM I 25 (τ a) (I 25 (τ a) - 1) 25 t + 1)) 24 a (nI t), J) := by
    unfold fX5_carryOver
    simp only [lt, inb_nI (show a < 32 by omega) (show (32 : Nat) < 2 ^ 31 by decide), if_true, clampI (show a < 2 ^ 31 by omega), a2, inb_nI a3 (show (36 : Nat) < 2 ^ 31 by decide), clampI (show τ a < 2 ^ 31 by omega), inb_nI ht36 (show (36 : Nat) < 2 ^ 31 by decide), clampI (show t < 2 ^ 31 by omega)]
  rw [hcar]
  simp only [Option.bind_some]
  rw [forgetWays_eq]
  simp only [Option.bind_some]
  generalize hC : upM (upM (upM (upM (upM I 25 (τ a) (I 25 (τ a) - 1)) 25 t (upM I 25 (τ a) (I 25 (τ a) - 1) 25 t + 1)) 24 a (nI t)) 28 0 0) 34 0 0 = C
  have Cx : ∀ z, z ≠ 24 → z ≠ 25 → z ≠ 28 → z ≠ 34 → C z = I z := by
    intro z q1 q2 q3 q4
    rw [← hC, upM_ne z q4, upM_ne z q3, upM_ne z q1, upM_ne z q2, upM_ne z q2]
  have C24 : ∀ u, C 24 u = if u = a then nI t else I 24 u := by
    intro u
    rw [← hC, upM_ne 24 (by decide), upM_ne 24 (by decide), upM_get, if_pos rfl, upM_ne 24 (by decide), upM_ne 24 (by decide)]
  have C25 : ∀ u, C 25 u = if u = t then I 25 t + 1 else if u = τ a then I 25 (τ a) - 1 else I 25 u := by
    intro u
    rw [← hC, upM_ne 25 (by decide), upM_ne 25 (by decide), upM_ne 25 (by decide), upM_get, if_pos rfl, upM_get, if_pos rfl, upM_get, if_pos rfl]
    by_cases q1 : u = t
    · rw [if_pos q1, if_pos q1, if_neg (Ne.symm hat)]
    · rw [if_neg q1, if_neg q1]
  refine tot_some.mpr ?_
  show tot (fX10_move n (nI a) (nI t) C J) _
  have C44 := Cx 44 (by decide) (by decide) (by decide) (by decide)
  have C45 := Cx 45 (by decide) (by decide) (by decide) (by decide)
  have C55 := Cx 55 (by decide) (by decide) (by decide) (by decide)
  have C61 := Cx 61 (by decide) (by decide) (by decide) (by decide)
  rw [hMy C C44 (fun i => by unfold thg; rw [C45, C55])]
  unfold fX10_move_26
  rw [if_pos rfl, if_pos (inb_nI (by omega) (by decide)), clampI (by omega), C61, a1]
  simp only [lt]
  rw [if_neg hne, hleft C C44 C45 C55 (Cx 60 (by decide) (by decide) (by decide) (by decide)) C61]
  simp only [Option.bind_some]
  rw [if_pos (hpos.mpr hrm), if_pos (inb_nI (by omega) (by decide)), moved_eq]
  simp only [Option.bind_some]
  generalize hMM : upM (upM (upM C 61 a (nI t)) 44 13 0) 44 14 0 = M
  have Mx : ∀ z, z ≠ 44 → z ≠ 61 → M z = C z := by
    intro z q1 q2
    rw [← hMM, upM_ne z q1, upM_ne z q1, upM_ne z q2]
  have M61 : ∀ u, M 61 u = if u = a then nI t else I 61 u := by
    intro u
    rw [← hMM, upM_ne 61 (by decide), upM_ne 61 (by decide), upM_get, if_pos rfl, C61]
  have M44 : ∀ j, j ≠ 13 → j ≠ 14 → M 44 j = I 44 j := by
    intro j q1 q2
    rw [← hMM, upM_get, if_pos rfl, if_neg q2, upM_get, if_pos rfl, if_neg q1, upM_ne 44 (by decide), C44]
  have My : ∀ z, z ≠ 24 → z ≠ 25 → z ≠ 28 → z ≠ 34 → z ≠ 44 → z ≠ 61 → M z = I z := fun z q1 q2 q3 q4 q5 q6 => by rw [Mx z q5 q6, Cx z q1 q2 q3 q4]
  have e : ∀ (l : List Nat), (∀ z ∈ l, z ≠ 24 ∧ z ≠ 25 ∧ z ≠ 28 ∧ z ≠ 34 ∧ z ≠ 44 ∧ z ≠ 61) → ∀ z ∈ l, M z = I z := fun l hl z hz => My z (hl z hz).1 (hl z hz).2.1 (hl z hz).2.2.1 (hl z hz).2.2.2.1 (hl z hz).2.2.2.2.1 (hl z hz).2.2.2.2.2
  have et : ∀ i, thg M i ↔ thg I i := fun i => by unfold thg; rw [e [45] (by decide) 45 (by decide), e [55] (by decide) 55 (by decide)]
  have etn : ∀ q, tn M q = tn I q := fun q => ct_cnt_congr q (fun i _ => decide_eq_decide.mpr (et i))
  have ef : feeds M = feeds I := by
    funext u f
    unfold feeds
    rw [e [45] (by decide) 45 (by decide), e [46] (by decide) 46 (by decide), e [55] (by decide) 55 (by decide), e [56] (by decide) 56 (by decide), e [57] (by decide) 57 (by decide)]
  have f22 : I 22 0 = 1 := by rw [pf.1.2.1]; exact h12
  have ntT : nI t < I 16 1 := by rw [hgr.2.1]; exact nI_lt ht (by omega)
  have nt : ∀ u, u < c → thg I u → ∃ s, s < 36 ∧ M 61 u = nI s ∧ nI s < I 16 1 ∧ M 24 u = M 61 u := by
    intro u hu hth
    rw [M61, Mx 24 (by decide) (by decide), C24]
    by_cases q : u = a
    · rw [if_pos q, if_pos q]; exact ⟨t, ht36, rfl, ntT, rfl⟩
    · rw [if_neg q, if_neg q]
      obtain ⟨y1, y2, y3, y4⟩ := t1 u hu hth
      exact ⟨τ u, y3, y1, y4, by rw [y1, y2]⟩
  have eld : ∀ s, s < 36 → ld M c s = (if s = t then ld I c t + 1 else if s = τ a then ld I c (τ a) - 1 else ld I c s) ∧ (s = τ a → 1 ≤ ld I c (τ a)) := by
    intro s hs
    have r1 := cnt_rm (fun i => decide (thg M i ∧ M 61 i = nI s)) a c ha
    have r2 := cnt_rm (fun i => decide (thg I i ∧ I 61 i = nI s)) a c ha
    have r3 : ct_cnt (fun i => decide (thg M i ∧ M 61 i = nI s) && !decide (i = a)) c = ct_cnt (fun i => decide (thg I i ∧ I 61 i = nI s) && !decide (i = a)) c := by
      refine ct_cnt_congr c (fun i hi => ?_)
      by_cases q : i = a
      · simp [q]
      · rw [decide_eq_decide.mpr (show (thg M i ∧ M 61 i = nI s) ↔ (thg I i ∧ I 61 i = nI s) by rw [et i, M61, if_neg q])]
    have eM : (decide (thg M a ∧ M 61 a = nI s) = true) ↔ s = t := by
      rw [decide_eq_true_iff, et a, M61, if_pos rfl]
      exact ⟨fun q => ((nI_eq (by omega) (by omega)).mp q.2).symm, fun q => ⟨hta, by rw [q]⟩⟩
    have eI : (decide (thg I a ∧ I 61 a = nI s) = true) ↔ s = τ a := by
      rw [decide_eq_true_iff, a1]
      exact ⟨fun q => ((nI_eq (by omega) (by omega)).mp q.2).symm, fun q => ⟨hta, by rw [q]⟩⟩
    unfold ld
    rw [r1, r3]
    by_cases q1 : s = t
    · rw [if_pos (eM.mpr q1), if_pos q1]
      rw [if_neg (fun q => hat (by rw [← eI.mp q]; exact q1))] at r2
      rw [q1] at r2
      exact ⟨by rw [q1]; omega, fun q => absurd (q.symm.trans q1) hat⟩
    · rw [if_neg (fun q => q1 (eM.mp q)), if_neg q1]
      by_cases q2 : s = τ a
      · rw [if_pos (eI.mpr q2)] at r2
        rw [if_pos q2]
        rw [q2] at r2 ⊢
        exact ⟨by omega, fun _ => by omega⟩
      · rw [if_neg (fun q => q2 (eI.mp q))] at r2
        rw [if_neg q2]
        exact ⟨by omega, fun q => absurd q q2⟩
  have hfin : Inv m M J := by
    refine Inv_set (fun z q1 q2 q3 q4 => My z (by omega) (by omega) (by omega) q2 q3 q4) (by rw [e [22] (by decide) 22 (by decide)]; exact f22) ?_ ?_ (fun j q1 q2 q3 => M44 j q2 q3) ⟨by rw [M44 12 (by decide) (by decide)]; exact h12, ?_, ?_⟩ (pf.2.2.1 h12) (fun c2' hc2' h62 => ?_) hI
    · rw [Mx 28 (by decide) (by decide), ← hC, upM_ne 28 (by decide), upM_get, if_pos rfl, if_pos rfl]
    · rw [Mx 34 (by decide) (by decide), ← hC, upM_get, if_pos rfl, if_pos rfl]
    · rw [← hMM, upM_get, if_pos rfl, if_neg (by decide), upM_get, if_pos rfl, if_pos rfl]
    · rw [← hMM, upM_get, if_pos rfl, if_pos rfl]
    obtain rfl : c2' = c := (nI_eq (by omega) (by omega)).mp (h62.symm.trans h6)
    refine ⟨fun _ i hi => ⟨fun hth => ?_, fun hth => ?_⟩, fun _ => ⟨?_, fun i hi hth => ?_, fun i hi hth => ?_, fun s hs => ?_, fun u hu f hf => ?_, fun f hf u hu => ?_⟩⟩
    · obtain ⟨s, y1, y2, y3, y4⟩ := nt i hi ((et i).mp hth)
      exact ⟨y4, s, y1, y2⟩
    · have hn' : ¬ thg I i := fun q => hth ((et i).mpr q)
      rw [Mx 24 (by decide) (by decide), C24, if_neg (fun q => hn' (by rw [q]; exact hta))]
      exact (pp h12 i hi).2 hn'
    · rw [e [22] (by decide) 22 (by decide), etn]; exact s1
    · rw [e [23] (by decide) 23 (by decide), etn]; exact s2 i hi ((et i).mp hth)
    · obtain ⟨s, y1, y2, y3, y4⟩ := nt i hi ((et i).mp hth)
      exact ⟨s, y1, y2, by rw [e [16] (by decide) 16 (by decide)]; exact y3⟩
    · obtain ⟨z1, z2⟩ := eld s hs
      obtain ⟨z3, z4⟩ := s4 s hs
      rw [z1, Mx 25 (by decide) (by decide), C25]
      by_cases q1 : s = t
      · rw [if_pos q1, if_pos q1, l1, nI_1]
        exact ⟨rfl, by have := hrm.2; omega⟩
      · rw [if_neg q1, if_neg q1]
        by_cases q2 : s = τ a
        · rw [if_pos q2, if_pos q2, lb1]
          exact ⟨pk_sub (a := ld I c2' (τ a)) (b := 1) (z2 q2), by omega⟩
        · rw [if_neg q2, if_neg q2]
          exact ⟨z3, z4⟩
    · rw [e [26] (by decide) 26 (by decide), ef]; exact s5 u hu f hf
    · rw [e [27] (by decide) 27 (by decide), ef]; exact s6 f hf u hu
  exact tot_some.mpr ⟨rfl, hfin⟩
