/-! lead -/
theorem ends_all (n : Nat) (hn : 2400 < n) {c w h : Nat} (hc : c ≤ 32) (hwh : w * h ≤ 36) {τ : Nat → Nat} {I : MI} (J : MJ) (hcl : clP c w (w * h) (thB I) (feeds I) τ I) (h6 : I 44 6 = nI c) (ho : ∀ u, u < c → uOk I u) (hf : ∀ u f, u < c → feeds I u f → thg I u) (ht : ∀ u, u < c → thg I u → I 61 u = nI (τ u) ∧ τ u < w * h) : ∃ E : Nat → Int64, ∀ i, i < c → thg I i → (∀ t, t < 64 → (bl (E i) t = true ↔ (∃ u, u < c ∧ feeds I u i ∧ τ u = t) ∧ t ≠ τ i)) ∧ (∀ (I' : MI) (J' : MJ), I' 24 = I 24 → I' 27 = I 27 → fX5_endsOf n (nI i) I' J' = some (E i, I', J')) ∧ ∀ (K : MI) (J' : MJ), (∀ a ∈ [45, 46, 55, 56, 57, 61], K a = I a) → K 44 6 = I 44 6 → fX10_endsOf n (nI i) K J' = some (E i, K, J') := by
  obtain ⟨E, hE⟩ := ends_ex n hn hc hwh (J := J) hcl h6 ho hf ht
  refine ⟨E, fun i hi hti => ?_⟩
  obtain ⟨h22, h23, h27, h24, hcol⟩ := hcl
  obtain ⟨-, -, v3⟩ := hE i hi hti
  refine ⟨v3, fun I' J' q1 q2 => ?_, fun K J' q1 q2 => ?_⟩
  · obtain ⟨v, v1, v2⟩ := endsC_ok n hn hc (show i < 32 by omega) (F := feeds I) (τ := τ) (I := I') (J := J') (by rw [q2]; exact h27 i (by omega)) (fun u hu hff => by rw [q1]; exact ⟨(h24 u hu (decide_eq_true (hf u i hu hff))).1, by have := (h24 u hu (decide_eq_true (hf u i hu hff))).2; omega⟩) (by rw [q1]; exact ⟨(h24 i hi (decide_eq_true hti)).1, by have := (h24 i hi (decide_eq_true hti)).2; omega⟩)
    have e : v = E i := bl_ext (fun t h => by rw [v2 t h, v3 t h])
    rw [e] at v1
    exact v1
  · have e45 := q1 45 (by decide)
    have e46 := q1 46 (by decide)
    have e55 := q1 55 (by decide)
    have e56 := q1 56 (by decide)
    have e57 := q1 57 (by decide)
    have e61 := q1 61 (by decide)
    obtain ⟨v, v1, v2⟩ := endsR_ok n hn hc (show i < 32 by omega) (τ := τ) (I := K) (J := J') (by rw [q2]; exact h6) (fun u hu => by unfold uOk; rw [e45, e46, e55, e57]; exact ho u hu) (fun u hu hth => by
      unfold thg at hth
      rw [e45, e55] at hth
      rw [e61]
      exact ⟨(ht u hu hth).1, by have := (ht u hu hth).2; omega⟩) (by rw [e61]; exact ⟨(ht i hi hti).1, by have := (ht i hi hti).2; omega⟩)
    have ef : feeds K = feeds I := by
      funext u f
      unfold feeds
      rw [e45, e46, e55, e56, e57]
    rw [ef] at v2
    have e : v = E i := bl_ext (fun t h => by rw [v2 t h, v3 t h])
    rw [e] at v1
    exact v1
theorem rch_cg {lo hi lo' hi' : Nat → Int32} {A A' : Nat → Prop} {r : Int32} (h : ∀ j, A j → A' j ∧ lo' j = lo j ∧ hi' j = hi j) : ∀ k t, rch lo hi A r k t → rch lo' hi' A' r k t := by
  intro k
  induction k with
  | zero => intro t q; exact q
  | succ k ih =>
    intro t q
    rcases q with q | ⟨j, q1, q2⟩
    · exact Or.inl (ih t q)
    · obtain ⟨z0, z1, z2⟩ := h j q1
      refine Or.inr ⟨j, z0, ?_⟩
      rw [z1, z2]
      rcases q2 with ⟨y1, y2⟩ | ⟨y1, y2⟩
      · exact Or.inl ⟨y1, ih _ y2⟩
      · exact Or.inr ⟨y1, ih _ y2⟩
theorem l46_ok (n : Nat) (hn : 2400 < n) {x1 : Int32} (K : MI) (J : MJ) : ∃ K', lX10_lead_46 n n x1 0 K J = lX10_lead_74 n n x1 0 K' J ∧ (∀ a, a ≠ 63 → a ≠ 64 → K' a = K a) ∧ ∀ j, j < 60 → K' 63 j = 0 ∧ K' 64 j = 0 := by
  have l : ∀ q k K1, k ≤ 60 → 60 < q + k → (∀ a, a ≠ 63 → a ≠ 64 → K1 a = K a) → (∀ j, j < k → K1 63 j = 0 ∧ K1 64 j = 0) → ∃ K', lX10_lead_46 n q x1 (nI k) K1 J = lX10_lead_74 n n x1 0 K' J ∧ (∀ a, a ≠ 63 → a ≠ 64 → K' a = K a) ∧ ∀ j, j < 60 → K' 63 j = 0 ∧ K' 64 j = 0 := by
    intro q
    induction q with
    | zero => intro k K1 h1 h2; omega
    | succ q ih =>
      intro k K1 h1 h2 f1 f2
      have e : lX10_lead_46 n (q + 1) x1 (nI k) K1 J = fX10_lead_46 n (lX10_lead_46 n q) x1 (nI k) K1 J := rfl
      rw [e]
      unfold fX10_lead_46
      by_cases hk : k = 60
      · rw [if_pos (by rw [hk]; decide)]
        rw [hk] at f2
        exact ⟨K1, rfl, f1, f2⟩
      have ik : inb (nI k) 60 = true := inb_nI (by omega) (by decide)
      rw [if_neg (show ¬ (60 : Int32) ≤ nI k from nI_ge (b := 60) (by omega) (by decide)), clampI (by omega), nI_1]
      simp only [ik, if_true, lt]
      refine ih (k + 1) _ (by omega) (by omega) (fun a q1 q2 => by rw [upM_ne a q1, upM_ne a q2]; exact f1 a q1 q2) (fun j hj => ?_)
      rw [upM_get, if_pos rfl, upM_ne 63 (by decide), upM_ne 64 (by decide), upM_get, if_pos rfl]
      by_cases q1 : j = k
      · rw [if_pos q1, if_pos q1]; exact ⟨rfl, rfl⟩
      · rw [if_neg q1, if_neg q1]; exact f2 j (by omega)
  exact l n 0 K (Nat.zero_le _) (by omega) (fun _ _ _ => rfl) (fun j hj => absurd hj (Nat.not_lt_zero _))
theorem l74_ok (n : Nat) (hn : 2400 < n) {x1 : Int32} (K : MI) (J : MJ) : ∃ K', lX10_lead_74 n n x1 0 K J = lX10_lead_101 n n x1 1 (upM K' 44 13 1) J ∧ (∀ a, a ≠ 62 → K' a = K a) ∧ ∀ j, j < 1920 → K' 62 j = 0 := by
  have l : ∀ q k K1, k ≤ 1920 → 1920 < q + k → (∀ a, a ≠ 62 → K1 a = K a) → (∀ j, j < k → K1 62 j = 0) → ∃ K', lX10_lead_74 n q x1 (nI k) K1 J = lX10_lead_101 n n x1 1 (upM K' 44 13 1) J ∧ (∀ a, a ≠ 62 → K' a = K a) ∧ ∀ j, j < 1920 → K' 62 j = 0 := by
    intro q
    induction q with
    | zero => intro k K1 h1 h2; omega
    | succ q ih =>
      intro k K1 h1 h2 f1 f2
      have e : lX10_lead_74 n (q + 1) x1 (nI k) K1 J = fX10_lead_74 n (lX10_lead_74 n q) x1 (nI k) K1 J := rfl
      rw [e]
      unfold fX10_lead_74
      by_cases hk : k = 1920
      · rw [if_pos (by rw [hk]; decide)]
        rw [hk] at f2
        exact ⟨K1, rfl, f1, f2⟩
      have ik : inb (nI k) 1920 = true := inb_nI (by omega) (by decide)
      rw [if_neg (show ¬ (1920 : Int32) ≤ nI k from nI_ge (b := 1920) (by omega) (by decide)), clampI (by omega), nI_1]
      simp only [ik, if_true, lt]
      refine ih (k + 1) _ (by omega) (by omega) (fun a q1 => by rw [upM_ne a q1]; exact f1 a q1) (fun j hj => ?_)
      rw [upM_get, if_pos rfl]
      by_cases q1 : j = k
      · rw [if_pos q1]; rfl
      · rw [if_neg q1]; exact f2 j (by omega)
  exact l n 0 K (Nat.zero_le _) (by omega) (fun _ _ => rfl) (fun j hj => absurd hj (Nat.not_lt_zero _))
theorem B_lead_ok (n : Nat) (hn : 2400 < n) : B_lead Inv n := by
  intro x m I J hI
  obtain ⟨pr, pq, pf, c', ni, nk, no, pn, ⟨pu, pg, pw, pp, pfr, pe⟩⟩ := id hI
  have f22 := pf.1.2.1
  have u44 : ∀ (j : Nat) (v : Int32), upM I 43 j v 44 = I 44 := fun j v => up43 (by decide)
  unfold fX9_lead fX9_lead_21
  by_cases hx0 : 0 ≤ x
  case neg =>
    rw [if_neg hx0, ref_4]
    simp only [Option.bind_some]
    refine rr (j := 2) (f := fX10_lead n x) (by decide) hI ?_
    unfold fX10_lead
    rw [if_neg hx0, no_4]
    rfl
  rw [if_pos hx0]
  have bad : ¬ ((1 : Int) ≤ x.toInt ∧ x.toInt ≤ 40) → tot (Option.bind (fX9_refuse n (-7 : Int32) I J) (fun r24 => some (r24.1, r24.2.1, r24.2.2))) (fun r => tot (fX10_lead n x r.2.1 r.2.2) (fun q => r.1 = q.1 ∧ Inv m q.2.1 q.2.2)) := by
    intro hb
    rw [ref_7]
    simp only [Option.bind_some]
    refine rr (j := 5) (f := fX10_lead n x) (by decide) hI ?_
    unfold fX10_lead
    rw [if_pos hx0, isIn_i]
    simp only [Option.bind_some, Int64.reduceToInt]
    rw [if_pos (b2_f hb), no_7]
    rfl
  by_cases hxz : x = 0
  · rw [if_pos hxz]
    exact bad (fun z => by rw [hxz, show (0 : Int32).toInt = 0 from rfl] at z; omega)
  rw [if_neg hxz]
  by_cases hx40 : x ≤ 40
  case neg =>
    rw [if_neg hx40]
    refine bad (fun z => hx40 ?_)
    rw [Int32.le_iff_toInt_le]
    exact z.2
  rw [if_pos hx40]
  obtain ⟨T, hT, rfl⟩ := nI_of (Int32.not_lt.mpr hx0)
  have hT40 : T ≤ 40 := (nI_leI (b := 40) hT (by decide)).mp hx40
  have hT1 : 1 ≤ T := by
    by_cases q : T = 0
    · exact absurd (by rw [q]; rfl) hxz
    · omega
  have hin : ∀ (K : MI) (J' : MJ), fX10_lead n (nI T) K J' = if K 44 12 = 0 then Option.bind (fX10_no n (-2 : Int32) K J') (fun r40 => some (r40.1, r40.2.1, r40.2.2)) else lX10_lead_46 n n (nI T) 0 K J' := by
    intro K J'
    unfold fX10_lead
    rw [if_pos hx0, isIn_i]
    simp only [Option.bind_some, Int64.reduceToInt]
    rw [b2_t ⟨by rw [nI_toInt (by omega)]; omega, by rw [nI_toInt (by omega)]; omega⟩, if_neg (by decide)]
  by_cases h22 : I 22 0 = 0
  · rw [if_pos h22, ref_2]
    simp only [Option.bind_some]
    refine rr (j := 0) (f := fX10_lead n (nI T)) (by decide) hI ?_
    rw [hin, u44, if_pos (by rw [← f22]; exact h22), no_2]
    rfl
  rw [if_neg h22]
  have h12 : I 44 12 = 1 := pf.2.1.2.1.resolve_left (by rw [← f22]; exact h22)
  obtain ⟨c, w, h, τ, hc, w1, w2, g1, g2, e5, e6, e24, e25, hcl, ho, hf, hff, ht⟩ := sctx2 hI h12
  have hc' := pn.1.1
  obtain rfl : c' = c := (nI_eq (by omega) (by omega)).mp (pn.2.1.1.symm.trans e5)
  have hwh := wh_le w2 g2
  obtain ⟨w', h', r', kc, ⟨w1', w2', g1', g2', -, -, k1', k2'⟩, ⟨e24', e25', -, e27'⟩, hgr, -⟩ := id pg
  obtain rfl : w' = w := (nI_eq (by omega) (by omega)).mp (e24'.symm.trans e24)
  obtain rfl : h' = h := (nI_eq (by omega) (by omega)).mp (e25'.symm.trans e25)
  have hM60 := jn_le w1 w2 g2
  obtain ⟨E, hE⟩ := ends_all n hn hc hwh J hcl e6 ho hf ht
  have hPt : ∀ i, thB I i = true ↔ thg I i := fun i => decide_eq_true_iff
  have hgC := gr_C w1 w2 g1 g2 hgr
  have hS : ldS n c' (w' * h') (jn w' h') (gLo w' h') (gHi w' h') w' h' kc (thB I) τ E I := by
    refine ⟨hc, gr_fs w1 w2 g1 g2, gr_R n w1 w2 g1 g2, hgC, ⟨by omega, hgr.1, e24, e25, e27', e6⟩, ⟨hcl.1, hcl.2.1⟩, fun i _ => hPt i, fun i hi hP => ⟨(ht i hi ((hPt i).mp hP)).2, (hcl.2.2.2.1 i hi hP).1, (ht i hi ((hPt i).mp hP)).1, fun y hy hb => ?_⟩, fun i hi hP => (hE i hi ((hPt i).mp hP)).2.1, fun i hi hP => (hE i hi ((hPt i).mp hP)).2.2⟩
    obtain ⟨⟨u, q1, q2, q3⟩, -⟩ := ((hE i hi ((hPt i).mp hP)).1 y hy).mp hb
    rw [← q3]
    exact (ht u q1 (hf u i q1 q2)).2
  obtain ⟨v, H', ps', s1, s2, s3, s4⟩ := turns_ok n hn (J0 := J) hS hT40 T 1 (fun _ _ => false) (fun _ => 0) (by omega) (by omega) (fun a j z => by cases z) (fun j => Nat.zero_le _) (Or.inr hT1)
  /- the class -/
  obtain ⟨Y, hY⟩ : ∃ Y, Y = fillc (fillc (upM I 28 0 1) 29 60 0) 30 60 0 := ⟨_, rfl⟩
  have y0 : ∀ a, a ≠ 28 → a ≠ 29 → a ≠ 30 → Y a = I a := fun a q1 q2 q3 => by
    rw [hY]
    funext b
    show (if a = 30 ∧ b < 60 then (0 : Int32) else if a = 29 ∧ b < 60 then 0 else upM I 28 0 1 a b) = I a b
    rw [if_neg (fun z => q3 z.1), if_neg (fun z => q2 z.1), upM_ne a q1]
  have hcnt0 : ∀ j : Nat, ct_cnt (fun i => (fun (_ _ : Nat) => false) i j) 32 = 0 := fun j => cnt_f 32 (fun i z => by cases z)
  have hCL : cL_ I J (fun _ _ => false) (fun _ => 0) Y (fillJ J 31 32 0) := by
    refine ⟨⟨fun j hj => ?_, fun i hi j hj => ?_⟩, fun j hj => ?_, fun a q1 q2 q3 _ _ => y0 a q1 q2 q3, ?_, fun a ha => ?_⟩
    · rw [hcnt0 j, hY]
      show (if 29 = 30 ∧ j < 60 then (0 : Int32) else if 29 = 29 ∧ j < 60 then 0 else _) = _
      rw [if_neg (fun z => absurd z.1 (by decide)), if_pos ⟨rfl, hj⟩]
      rfl
    · have : fillJ J 31 32 0 31 i = 0 := if_pos ⟨rfl, hi⟩
      rw [this, bl_0]
    · rw [hY]
      exact if_pos ⟨rfl, hj⟩
    · rw [hY]
      show (if 28 = 30 ∧ 0 < 60 then (0 : Int32) else if 28 = 29 ∧ 0 < 60 then 0 else upM I 28 0 1 28 0) = 1
      rw [if_neg (fun z => absurd z.1 (by decide)), if_neg (fun z => absurd z.1 (by decide)), upM_get, if_pos rfl, if_pos rfl]
    · funext b
      exact if_neg (fun z => ha z.1)
  obtain ⟨I', J', a1, a2⟩ := s3 Y (fillJ J 31 32 0) n (by omega) hCL
  have hlead : fX8_leadAll n (nI T) I J = some (v, I', J') := by
    unfold fX8_leadAll
    simp only [lt]
    rw [fill_eq n 29 60 _ _ _ (by decide) (by decide) aln_29 (by omega)]
    simp only [Option.bind_some]
    rw [fill_eq n 30 60 _ _ _ (by decide) (by decide) aln_30 (by omega)]
    simp only [Option.bind_some]
    rw [fillJ_eq n 31 32 _ _ _ (by decide) (by decide) alJ_31 (by omega)]
    simp only [Option.bind_some]
    rw [← hY]
    exact a1
  rw [hlead]
  simp only [Option.bind_some]
  refine tot_some.mpr ?_
  show tot (fX10_lead n (nI T) I' J') (fun q => v = q.1 ∧ Inv m q.2.1 q.2.2)
  obtain ⟨c1, c2, f1, f2, f3⟩ := a2
  have i44 : I' 44 = I 44 := f1 44 (by decide) (by decide) (by decide) (by decide) (by decide)
  /- the reference -/
  obtain ⟨K1, b1, b2', b3⟩ := l46_ok n hn (x1 := nI T) I' J'
  obtain ⟨K2, d1, d2, d3⟩ := l74_ok n hn (x1 := nI T) K1 J'
  have hRL : rL_ I' (fun _ _ => false) (fun _ => 0) (upM K2 44 13 1) := by
    refine ⟨⟨fun j hj => ?_, fun i hi j hj => ?_⟩, fun j hj => ?_, fun a q1 q2 => ?_, fun j hj => ?_, ?_⟩
    · rw [hcnt0 j, upM_ne 63 (by decide), d2 63 (by decide), (b3 j hj).1]; rfl
    · rw [upM_ne 62 (by decide), d3 _ (by omega)]; rfl
    · rw [upM_ne 64 (by decide), d2 64 (by decide), (b3 j hj).2]; rfl
    · rw [upM_ne a q1, d2 a (by omega), b2' a (by omega) (by omega)]
    · rw [upM_get, if_pos rfl, if_neg hj, d2 44 (by decide), b2' 44 (by decide) (by decide)]
    · rw [upM_get, if_pos rfl, if_pos rfl]
  obtain ⟨Z, z1, z2⟩ := s4 I' (fun a q1 q2 q3 q4 q5 => f1 a q1 q2 q3 q4 q5) (upM K2 44 13 1) J' n (by omega) hRL
  have href : fX10_lead n (nI T) I' J' = some (v, Z, J') := by
    rw [hin, i44, if_neg (by rw [h12]; decide), b1, d1]
    exact z1
  rw [href]
  refine tot_some.mpr ⟨rfl, ?_⟩
  show Inv m Z J'
  obtain ⟨r1, r2, r3, r4, r5⟩ := z2
  have zI : ∀ a, a ≠ 44 → (a < 62 ∨ 67 < a) → a ≠ 28 → a ≠ 29 → a ≠ 30 → a ≠ 32 → a ≠ 33 → Z a = I a := fun a q0 q1 q2 q3 q4 q5 q6 => by rw [r3 a q0 q1]; exact f1 a q2 q3 q4 q5 q6
  have zI' : ∀ (l : List Nat), (∀ a ∈ l, (a ≠ 44 ∧ (a < 62 ∨ 67 < a)) ∧ a ≠ 28 ∧ a ≠ 29 ∧ a ≠ 30 ∧ a ≠ 32 ∧ a ≠ 33) → ∀ a ∈ l, Z a = I a := fun l hl a ha => zI a (hl a ha).1.1 (hl a ha).1.2 (hl a ha).2.1 (hl a ha).2.2.1 (hl a ha).2.2.2.1 (hl a ha).2.2.2.2.1 (hl a ha).2.2.2.2.2
  have z44 : ∀ j, j ≠ 13 → Z 44 j = I 44 j := fun j hj => by rw [r4 j hj, i44]
  have z44' : ∀ (l : List Nat), (∀ j ∈ l, j ≠ 13) → ∀ j ∈ l, Z 44 j = I 44 j := fun l hl j hj => z44 j (hl j hj)
  have z28 : Z 28 0 = 1 := by rw [r3 28 (by decide) (by decide)]; exact f2
  have e11 := zI' [11] (by decide) 11 (by decide)
  refine ⟨PR_fr (zI' _ (by decide)) pr, PQ_fr (zI' _ (by decide)) (z44 48 (by decide)) pq, ?_, c', ni, nk, no, PN_fr (zI' _ (by decide)) (z44' _ (by decide)) pn, PU_fr (zI' _ (by decide)) (by rw [zI' [34] (by decide) 34 (by decide)]) (z44' _ (by decide)) (PU_dec pu), PG_fr (zI' _ (by decide)) (z44' _ (by decide)) (by rw [f3 16 (by decide)]) pg, ?_, PP_fr (zI' _ (by decide)) (z44 12 (by decide)) pp, PF_fr (zI' _ (by decide)) (by rw [zI' [16] (by decide) 16 (by decide)]) (z44 14 (by decide)) pfr, PK_fr (zI' _ (by decide)) (z44 15 (by decide)) (f3 10 (by decide)) pe.1, PT_fr (zI' _ (by decide)) (by rw [e11]) (by rw [e11]) (z44 11 (by decide)) pe.2.1, PS_fr (zI' _ (by decide)) (by rw [zI' [16] (by decide) 16 (by decide)]) (by rw [zI' [22] (by decide) 22 (by decide)]) (z44 12 (by decide)) pe.2.2.1, ⟨PB_fr (zI' _ (by decide)) (z44 14 (by decide)) pe.2.2.2.1.1, ?_⟩, PC_fr (zI' [1] (by decide) 1 (by decide)) (zI' [2] (by decide) 2 (by decide)) pe.2.2.2.2⟩
  · obtain ⟨⟨p1, p2, p3, p4⟩, ⟨p5, p6, p7, p8⟩, p9, p10, p11⟩ := pf
    unfold Pf
    rw [z28, r5, e11, zI' [22] (by decide) 22 (by decide), zI' [34] (by decide) 34 (by decide), z44 11 (by decide), z44 12 (by decide), z44 14 (by decide)]
    exact ⟨⟨p1, p2, rfl, p4⟩, ⟨p5, p6, Or.inr rfl, p8⟩, p9, fun _ => h12, p11⟩
  · intro _
    refine ⟨fun j hj => ⟨?_, ?_⟩, fun i hi j hj => ?_⟩
    · rw [r1.1 j hj, r3 29 (by decide) (by decide), c1.1 j hj]
    · rw [r2 j hj, r3 30 (by decide) (by decide), c2 j hj]
    · rw [r1.2 i hi j hj, c1.2 i hi j hj]
      cases q : H' i j with
      | true => exact ⟨Or.inr rfl, by decide⟩
      | false => exact ⟨Or.inl rfl, by decide⟩
  · intro _ i hi hth u hu hfd
    have hth' : thg I i := by
      unfold thg at hth ⊢
      rw [zI' [45] (by decide) 45 (by decide), zI' [55] (by decide) 55 (by decide)] at hth
      exact hth
    have hfd' : feeds I u i := by
      unfold feeds at hfd ⊢
      rw [zI' [45] (by decide) 45 (by decide), zI' [46] (by decide) 46 (by decide), zI' [55] (by decide) 55 (by decide), zI' [56] (by decide) 56 (by decide), zI' [57] (by decide) 57 (by decide)] at hfd
      exact hfd
    obtain ⟨ti, tib⟩ := ht i hi hth'
    obtain ⟨tu, tub⟩ := ht u hu (hf u i hu hfd')
    rw [zI' [61] (by decide) 61 (by decide), zI' [19] (by decide) 19 (by decide), zI' [20] (by decide) 20 (by decide), zI' [16] (by decide) 16 (by decide), ti, tu]
    by_cases hsame : τ u = τ i
    · exact ⟨0, by rw [hsame]; exact (rfl : nI (τ i) = nI (τ i))⟩
    · have hb : bl (E i) (τ u) = true := ((hE i hi hth').1 (τ u) (by omega)).mpr ⟨⟨u, hu, hfd', rfl⟩, hsame⟩
      obtain ⟨k, hk⟩ := s2 i hi ((hPt i).mpr hth') (τ u) tub hb
      refine ⟨k, rch_cg (fun j hj => ?_) k _ hk⟩
      refine ⟨⟨by omega, ?_, ?_⟩, (hgC.2.2.1 j hj.1).1, (hgC.2.2.1 j hj.1).2⟩
      · rw [hgC.2.1]; exact nI_lt hj.1 (by omega)
      · rw [r1.2 i (by omega) j (by omega), hj.2]; rfl
