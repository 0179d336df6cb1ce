/-! set: the call -/
theorem B_set_ok (n : Nat) (hn : 2400 < n) : B_set Inv n := by
  intro m I J hI
  obtain ⟨pr, pq, pf, c, ni, nk, no, pn, ⟨pu, pg, pw, pp, pfr, pe⟩⟩ := id hI
  obtain ⟨w, h, r, k, ⟨w1, w2, g1, g2, o1, o2, c1, c2⟩, ⟨e24, e25, e26, e27⟩, hgr, hb01, hbz, hbl⟩ := pg
  obtain ⟨⟨hc, hni, hnk, hno⟩, ⟨e5, e6, e1, e2, e3, e4, e7, e8⟩, pcell, pouts, pgt, pfi, p49, p49'⟩ := id pn
  have hwh := wh_le w2 g2
  have f11 := pf.1.1
  have u44 : ∀ (j : Nat) (v : Int32), upM I 43 j v 44 = I 44 := fun j v => up43 (by decide)
  unfold fX9_set
  by_cases h11 : I 11 0 = 0
  · rw [if_pos h11, ref_2]
    simp only [Option.bind_some]
    refine rr (j := 0) (f := fX10_set n) (by decide) hI ?_
    unfold fX10_set
    rw [u44, if_pos (by rw [← f11]; exact h11), no_2]
    rfl
  have h11' : I 44 11 = 1 := pf.2.1.1.resolve_left (by rw [← f11]; exact h11)
  obtain ⟨no', K, D, W, t1, t2, k1, hW, t3, t4, t5, t6⟩ := pe.2.1 h11'
  have hwf := kOk_wf hc k1
  have hK : ∀ g, g < c → I 2 g = 2 → (K g).2 0 < 2 ^ g := fun g hg hs => ((hwf g hg).1.2.2 0 ((hwf g hg).2.2 hs)).1
  have hW2 : ∀ i, i < c → W i = true → I 2 i = 2 := fun i hi hw => (tw_lt hK c (Nat.le_refl _) i ((hW i).mp hw)).2
  have hsort : ∀ i, i < c → I 2 i = 0 ∨ I 2 i = 1 ∨ I 2 i = 2 := by
    intro i hi
    obtain ⟨-, -, -, g | g | g⟩ := pcell i hi
    · exact Or.inl g.1
    · exact Or.inr (Or.inl g.1)
    · exact Or.inr (Or.inr g.1)
  have hcount := things_cnt (fun i hi => (pcell i hi).1) hsort hW2 t4 c (Nat.le_refl _)
  have hN : I 1 6 + I 1 7 + I 11 1 = nI (tn I c) := by rw [pe.2.2.2.2.1, pe.2.2.2.2.2, t5, nI_add, nI_add, hcount]
  obtain ⟨cap, hcap⟩ : ∃ cap : Nat → Nat, ∀ t, cap t = if t < w * h ∧ I 60 t = 0 then r else 0 := ⟨fun t => if t < w * h ∧ I 60 t = 0 then r else 0, fun _ => rfl⟩
  have hcap0 : ∀ t, t < w * h → cap t = if I 60 t = 0 then r else 0 := by
    intro t ht
    rw [hcap t]
    by_cases q : I 60 t = 0
    · rw [if_pos ⟨ht, q⟩, if_pos q]
    · rw [if_neg (fun z => q z.2), if_neg q]
  have hcap4 : ∀ t, cap t ≤ 4 := by
    intro t
    rw [hcap t]
    split <;> omega
  have hcap1 : ∀ t, t < w * h → cap t = if decide (I 60 t = 1) = true then 0 else r := by
    intro t ht
    rw [hcap0 t ht]
    rcases hb01 t (by omega) with q | q
    · rw [if_pos q, q, if_neg (by decide)]
    · rw [q, if_neg (by decide), if_pos (by decide)]
  have hroomA := roomInAll_eq n (T := w * h) (r := r) (cap := cap) hwh (by omega) I J hgr.2.1 hgr.2.2.1 hbl (fun t h1 h2 => hbz t h1 h2) hcap1
  have hTN := tn_le I c
  have hacc : acc cap (w * h) < 2 ^ 31 := by
    have := acc_eq hcap1 (w * h) (Nat.le_refl _)
    have h2 : (w * h - ct_cnt (fun t => decide (I 60 t = 1)) (w * h)) * r ≤ 36 * 4 := Nat.mul_le_mul (by omega) (by omega)
    omega
  have hTT : I 44 24 * I 44 25 = nI (w * h) := by rw [e24, e25, pk_mul]
  rw [if_neg h11, hroomA]
  simp only [Option.bind_some]
  rw [hN]
  by_cases hfit : tn I c ≤ acc cap (w * h)
  case neg =>
    rw [if_neg (nI_ge (by omega) (by omega)), ref_8]
    simp only [Option.bind_some]
    refine rr (j := 6) (f := fX10_set n) (by decide) hI ?_
    have Y : ∀ a, a ≠ 43 → upM I 43 6 (I 43 6 + 1) a = I a := fun a ha => up43 ha
    have hl := all_loop n (T := w * h) (r := r) (cap := cap) hwh (upM I 43 6 (I 43 6 + 1)) J (by rw [Y 44 (by decide)]; exact hTT) (by rw [Y 44 (by decide)]; exact e26) (by rw [Y 60 (by decide)]; exact hcap0) n 0 (Nat.zero_le _) (by omega)
    have hl' : lX10_set_18 n n 0 0 (upM I 43 6 (I 43 6 + 1)) J = _ := hl
    have htn : tn (upM I 43 6 (I 43 6 + 1)) c = tn I c := ct_cnt_congr c (fun i _ => decide_eq_decide.mpr (by unfold thg; rw [Y 45 (by decide), Y 55 (by decide)]))
    unfold fX10_set
    rw [Y 44 (by decide), if_neg (by rw [h11']; decide), hl', things_eq n hn hc _ J (by rw [Y 44 (by decide)]; exact e6), htn]
    simp only [Option.bind_some]
    rw [if_neg (nI_ge (by omega) (by omega)), no_8]
    rfl
  rw [if_pos (nI_le hfit hacc)]
  have hgO : ∀ u, u < c → gOk I u := by
    intro u hu
    obtain ⟨q1, q2, q3, g | g | g⟩ := pcell u hu
    · exact Or.inl ⟨g.1, by rw [q1]; exact g.1⟩
    · obtain ⟨s, hs, es⟩ := g.2.1
      exact Or.inr (Or.inl ⟨g.1, by rw [q1]; exact g.1, s, by omega, es, by rw [q2]; exact es⟩)
    · refine Or.inr (Or.inr ⟨g.1, by rw [q1]; exact g.1, ?_⟩)
      by_cases hw : W u = true
      · right
        obtain ⟨y1, y2, y3, -⟩ := t6 u hu hw
        have h4 := ((hwf u hu).1.2.2 0 ((hwf u hu).2.2 g.1)).2
        have hpu : ct_pop u ((K u).2 0) = ct_pop 32 ((K u).2 0) := (ct_pop_ext (hK u hu g.1) 32 (by omega)).symm
        refine ⟨by rw [t3 u (by omega)]; exact hw, by rw [t4 u hu, if_pos hw]; decide, _, h4, y1, y2, fun j hj => ?_⟩
        obtain ⟨i, i1, i2, i3⟩ := ct_pop_at ((K u).2 0) u j (by rw [hpu]; exact hj)
        obtain ⟨z1, z2⟩ := y3 i i1 i2
        rw [i3] at z1 z2
        exact ⟨i, by omega, z1, z2⟩
      · left
        refine ⟨?_, by rw [t4 u hu, if_neg hw]⟩
        rw [t3 u (by omega)]
        cases q : W u with
        | false => rfl
        | true => exact absurd q hw
  obtain ⟨I1, a1, a2, a3, a4, a5, a6, a7⟩ := gather_ok n hn hc I J e5 hgO
  have hex : ∀ i, ∃ t, i < c → thg I i → t < w * h ∧ isPl cap t (tn I i) := by
    intro i
    by_cases hh : i < c ∧ thg I i
    · have m1 := tn_mono I (a := i + 1) c (by omega)
      have m2 := tn_s I i
      rw [if_pos (decide_eq_true hh.2)] at m2
      obtain ⟨t, q1, q2⟩ := isPl_ex cap (tn I i) (w * h) (by omega)
      exact ⟨t, fun _ _ => ⟨q1, q2⟩⟩
    · exact ⟨0, fun h1 h2 => absurd ⟨h1, h2⟩ hh⟩
  obtain ⟨τ, hτ⟩ : ∃ τ : Nat → Nat, ∀ i, i < c → thg I i → τ i < w * h ∧ isPl cap (τ i) (tn I i) := ⟨fun i => (hex i).choose, fun i => (hex i).choose_spec⟩
  have A16 := a2 16 (by decide) (by decide) (by decide) (by decide)
  have hrm : ∀ t, t < w * h → (if bl (J 16 9) t = true then 0 else I1 16 8) = nI (cap t) := by
    intro t ht
    rw [A16, hgr.2.2.1, hcap1 t ht, hbl t (by omega)]
    by_cases q : I 60 t = 1
    · rw [if_pos (decide_eq_true ⟨by omega, q⟩), if_pos (decide_eq_true q)]; rfl
    · rw [if_neg (fun z => q (of_decide_eq_true z).2), if_neg (fun z => q (of_decide_eq_true z))]
  obtain ⟨I2, b1, b2', b3, b4, b5, b6, b7, b8⟩ := putAll_ok n hn (P := thB I) (N := tn I c) (cap := cap) (τ := τ) hc hwh rfl hcap4 hfit (fun i hi hP => (hτ i hi (of_decide_eq_true hP)).2) J I1 (by rw [A16]; exact hgr.2.1) hrm a4 (fun i hi hP => a5 i hi (of_decide_eq_true hP)) (fun x hx => by
    obtain ⟨i, i1, i2, i3⟩ := tn_at I c x hx
    exact ⟨i, i1, decide_eq_true i2, i3⟩)
  rw [a1]
  simp only [Option.bind_some]
  rw [b1]
  simp only [Option.bind_some]
  rw [forgetWays_eq]
  simp only [Option.bind_some]
  generalize hC : upM (upM I2 28 0 0) 34 0 0 = C
  have C2 : ∀ a, a ≠ 28 → a ≠ 34 → C a = I2 a := fun a q1 q2 => by rw [← hC, upM_ne a q2, upM_ne a q1]
  have Cx : ∀ a, a ≠ 22 → a ≠ 23 → a ≠ 24 → a ≠ 25 → a ≠ 26 → a ≠ 27 → a ≠ 28 → a ≠ 34 → C a = I a := fun a q1 q2 q3 q4 q5 q6 q7 q8 => by rw [C2 a q7 q8, b2' a q1 q3 q4, a2 a q1 q2 q5 q6]
  have Cl : ∀ (l : List Nat), (∀ a ∈ l, a ≠ 22 ∧ a ≠ 23 ∧ a ≠ 24 ∧ a ≠ 25 ∧ a ≠ 26 ∧ a ≠ 27 ∧ a ≠ 28 ∧ a ≠ 34) → ∀ a ∈ l, C a = I a := fun l hl a ha => Cx a (hl a ha).1 (hl a ha).2.1 (hl a ha).2.2.1 (hl a ha).2.2.2.1 (hl a ha).2.2.2.2.1 (hl a ha).2.2.2.2.2.1 (hl a ha).2.2.2.2.2.2.1 (hl a ha).2.2.2.2.2.2.2
  have C44 := Cl [44] (by decide) 44 (by decide)
  have C45 := Cl [45] (by decide) 45 (by decide)
  have C55 := Cl [55] (by decide) 55 (by decide)
  have Cth : ∀ i, thg C i ↔ thg I i := fun i => by unfold thg; rw [C45, C55]
  have CthB : thB C = thB I := by funext i; exact decide_eq_decide.mpr (Cth i)
  have Ctn : ∀ k, tn C k = tn I k := fun k => ct_cnt_congr k (fun i _ => decide_eq_decide.mpr (Cth i))
  have C221 : C 22 1 = nI (tn I c) := by rw [C2 22 (by decide) (by decide)]; exact b4
  rw [C221]
  refine tot_some.mpr ?_
  show tot (fX10_set n C J) _
  have hl := all_loop n (T := w * h) (r := r) (cap := cap) hwh C J (by rw [C44]; exact hTT) (by rw [C44]; exact e26) (by rw [Cl [60] (by decide) 60 (by decide)]; exact hcap0) n 0 (Nat.zero_le _) (by omega)
  have hl' : lX10_set_18 n n 0 0 C J = _ := hl
  obtain ⟨M, m1, m2, m3⟩ := least_all n hn (r := r) (cap := cap) (τ := τ) hc hwh (by omega) C J (by rw [C44]; exact e6) (fun z hz hP => by rw [CthB] at hP; rw [Ctn]; exact ⟨(hτ z hz (of_decide_eq_true hP)).2, (hτ z hz (of_decide_eq_true hP)).1⟩) (by rw [C44]; exact e26) (by rw [Cl [60] (by decide) 60 (by decide)]; exact hcap0) n 0 C (Nat.zero_le _) (by omega) (fun _ _ => rfl) (fun z hz => absurd hz (Nat.not_lt_zero _))
  have m1' : lX10_set_69 n n 0 C J = _ := m1
  unfold fX10_set
  rw [C44, if_neg (by rw [h11']; decide), hl', things_eq n hn hc C J (by rw [C44]; exact e6), Ctn]
  simp only [Option.bind_some]
  rw [if_pos (nI_le hfit hacc), m1', Ctn]
  generalize hQ : upM (upM (upM M 44 12 1) 44 13 0) 44 14 0 = Q
  have Q1 : ∀ a, a ≠ 44 → a ≠ 61 → Q a = C a := fun a q1 q2 => by rw [← hQ, upM_ne a q1, upM_ne a q1, upM_ne a q1]; exact m2 a q2
  have Ql : ∀ (l : List Nat), (∀ a ∈ l, (a ≠ 22 ∧ a ≠ 23 ∧ a ≠ 24 ∧ a ≠ 25 ∧ a ≠ 26 ∧ a ≠ 27 ∧ a ≠ 28 ∧ a ≠ 34) ∧ a ≠ 44 ∧ a ≠ 61) → ∀ a ∈ l, Q a = I a := fun l hl a ha => by rw [Q1 a (hl a ha).2.1 (hl a ha).2.2]; exact Cl [a] (fun z hz => by rw [List.mem_singleton.mp hz]; exact (hl a ha).1) a (List.mem_singleton.mpr rfl)
  have Q61 : ∀ z, z < c → thg I z → Q 61 z = nI (τ z) := fun z hz hth => by rw [← hQ, upM_ne 61 (by decide), upM_ne 61 (by decide), upM_ne 61 (by decide)]; exact m3 z hz ((Cth z).mpr hth)
  have Q24 : ∀ z, Q 24 z = I2 24 z := fun z => by rw [Q1 24 (by decide) (by decide), C2 24 (by decide) (by decide)]
  have Q25 : ∀ z, Q 25 z = I2 25 z := fun z => by rw [Q1 25 (by decide) (by decide), C2 25 (by decide) (by decide)]
  have Qth : ∀ i, thg Q i ↔ thg I i := fun i => by unfold thg; rw [Ql [45] (by decide) 45 (by decide), Ql [55] (by decide) 55 (by decide)]
  have Qtn : ∀ k, tn Q k = tn I k := fun k => ct_cnt_congr k (fun i _ => decide_eq_decide.mpr (Qth i))
  have Qf : feeds Q = feeds I := by
    funext u f
    unfold feeds
    rw [Ql [45] (by decide) 45 (by decide), Ql [46] (by decide) 46 (by decide), Ql [55] (by decide) 55 (by decide), Ql [56] (by decide) 56 (by decide), Ql [57] (by decide) 57 (by decide)]
  have hfin : Inv m Q J := by
    refine Inv_set (fun a q1 q2 q3 q4 => ?_) ?_ ?_ ?_ (fun j q1 q2 q3 => ?_) ⟨?_, ?_, ?_⟩ h11' (fun c2' hc2' h62 => ?_) hI
    · rw [Q1 a q3 q4]; exact Cx a (by omega) (by omega) (by omega) (by omega) (by omega) (by omega) (by omega) q2
    · rw [Q1 22 (by decide) (by decide), C2 22 (by decide) (by decide)]; exact b3
    · rw [Q1 28 (by decide) (by decide), ← hC, upM_ne 28 (by decide), upM_get, if_pos rfl, if_pos rfl]
    · rw [Q1 34 (by decide) (by decide), ← hC, upM_get, if_pos rfl, if_pos rfl]
    · rw [← hQ, upM_get, if_pos rfl, if_neg q3, upM_get, if_pos rfl, if_neg q2, upM_get, if_pos rfl, if_neg q1, m2 44 (by decide), C44]
    · rw [← hQ]; simp [upM_get]
    · rw [← hQ]; simp [upM_get]
    · rw [← hQ]; simp [upM_get]
    obtain rfl : c2' = c := (nI_eq (by omega) (by omega)).mp (h62.symm.trans e6)
    refine ⟨fun _ i hi => ⟨fun hth => ?_, fun hth => ?_⟩, fun _ => ⟨?_, fun i hi hth => ?_, fun i hi hth => ?_, fun t ht => ?_, fun u hu f hf => ?_, fun f hf u hu => ?_⟩⟩
    · have hth' := (Qth i).mp hth
      have q := (hτ i hi hth').1
      exact ⟨by rw [Q24, b7 i hi (decide_eq_true hth'), Q61 i hi hth'], τ i, by omega, Q61 i hi hth'⟩
    · rw [Q24]
      exact b8 i hi (fun z => hth ((Qth i).mpr (of_decide_eq_true z)))
    · rw [Q1 22 (by decide) (by decide), C221, Qtn]
    · rw [Q1 23 (by decide) (by decide), C2 23 (by decide) (by decide), b2' 23 (by decide) (by decide) (by decide), Qtn]
      exact a5 i hi ((Qth i).mp hth)
    · have hth' := (Qth i).mp hth
      have q := (hτ i hi hth').1
      exact ⟨τ i, by omega, Q61 i hi hth', by rw [Ql [16] (by decide) 16 (by decide), hgr.2.1]; exact nI_lt q (by omega)⟩
    · have f1 : ld Q c2' t = tCnt (thB I) τ c2' t := by
        refine ct_cnt_congr c2' (fun i hi => ?_)
        by_cases hth : thg I i
        · have q := (hτ i hi hth).1
          rw [show thB I i = true from decide_eq_true hth, Bool.true_and]
          refine decide_eq_decide.mpr ⟨fun q' => ?_, fun q' => ⟨(Qth i).mpr hth, by rw [Q61 i hi hth, q']⟩⟩
          have := q'.2
          rw [Q61 i hi hth] at this
          exact (nI_eq (by omega) (by omega)).mp this
        · rw [show thB I i = false from decide_eq_false hth, Bool.false_and, decide_eq_false (fun q => hth ((Qth i).mp q.1))]
      have f2 : tCnt (thB I) τ c2' t = min (tn I c2') (acc cap (t + 1)) - min (tn I c2') (acc cap t) := cnt_pl (P := thB I) (cap := cap) (c := c2') (fun z hz hP => (hτ z hz (of_decide_eq_true hP)).2) t c2' (Nat.le_refl _)
      have ea : acc cap (t + 1) = acc cap t + cap t := rfl
      have h4 := hcap4 t
      rw [f1, f2, Q25]
      refine ⟨?_, by omega⟩
      by_cases htt : t < w * h
      · exact b5 t htt
      · rw [b6 t (by omega) ht]
        have hz : cap t = 0 := by rw [hcap t, if_neg (fun z => htt z.1)]
        rw [ea, hz, Nat.add_zero, Nat.sub_self]
        rfl
    · rw [Q1 26 (by decide) (by decide), C2 26 (by decide) (by decide), b2' 26 (by decide) (by decide) (by decide), Qf]; exact a6 u hu f hf
    · rw [Q1 27 (by decide) (by decide), C2 27 (by decide) (by decide), b2' 27 (by decide) (by decide) (by decide), Qf]; exact a7 f hf u hu
  exact tot_some.mpr ⟨rfl, hfin⟩
