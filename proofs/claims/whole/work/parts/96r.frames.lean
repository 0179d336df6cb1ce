/-! frames: both sides -/
theorem at0_mem {l : List Nat} (h : ∀ v ∈ l, v < 256) : ∀ j, at0 l j < 256 := by
  induction l with
  | nil => intro j; exact (show 0 < 256 by decide)
  | cons a l ih =>
    intro j
    cases j with
    | zero => exact h a (List.mem_cons_self ..)
    | succ j => exact ih (fun v hv => h v (List.mem_cons_of_mem _ hv)) j
theorem lst_mem {i srt k b : Nat} {ℓ : Nat → Nat} (hi : i < 256) (hs : srt < 256) (hk : k < 256) (hℓ : ∀ j, j < k → ℓ j < 256) (hb : b < 65536) : ∀ v ∈ lst i srt k ℓ b, v < 256 := by
  intro v hv
  unfold lst at hv
  rcases List.mem_append.mp hv with hv | hv
  · rcases List.mem_append.mp hv with hv | hv
    · simp only [List.mem_cons, List.not_mem_nil, or_false] at hv
      omega
    · obtain ⟨j, h1, h2⟩ := List.mem_map.mp hv
      rw [← h2]
      exact hℓ j (List.mem_range.mp h1)
  · unfold tailB at hv
    by_cases h2 : srt = 2
    · rw [if_pos h2] at hv
      simp only [List.mem_cons, List.not_mem_nil, or_false] at hv
      omega
    · rw [if_neg h2] at hv
      exact absurd hv (List.not_mem_nil)
theorem tlL_mem {P : Nat → Nat → Bool} {ls : Nat → List Nat} {t c : Nat} (h : ∀ i, i < c → P t i = true → ∀ v ∈ ls i, v < 256) : ∀ k, k ≤ c → ∀ v ∈ tlL P ls t k, v < 256 := by
  intro k
  induction k with
  | zero => intro _ v hv; exact absurd hv List.not_mem_nil
  | succ k ih =>
    intro hk v hv
    have e : tlL P ls t (k + 1) = if P t k = true then tlL P ls t k ++ ls k else tlL P ls t k := rfl
    rw [e] at hv
    by_cases hp : P t k = true
    · rw [if_pos hp] at hv
      rcases List.mem_append.mp hv with q | q
      · exact ih (by omega) v q
      · exact h k (by omega) hp v q
    · rw [if_neg hp] at hv
      exact ih (by omega) v hv
theorem B_frames_ok (n : Nat) (hn : 2400 < n) : B_frames Inv n := by
  intro m I J hI
  have hm := Inv_m hI
  obtain ⟨pr, pq, pf, c', ni, nk, no, pn, ⟨pu, pg, pw, pp, pfr, pe⟩⟩ := id hI
  have f22 := pf.1.2.1
  unfold fX9_frames
  by_cases h22 : I 22 0 = 0
  · rw [if_pos h22, ref_2]
    simp only [Option.bind_some]
    refine rr (j := 0) (f := fX10_frames n) (by decide) hI ?_
    unfold fX10_frames
    rw [up43 (show (44 : Nat) ≠ 43 by decide), if_pos (by rw [← f22]; exact h22), no_2]
    rfl
  have h12 : I 44 12 = 1 := pf.2.1.2.1.resolve_left (by rw [← f22]; exact h22)
  have h11 := pf.2.2.1 h12
  obtain ⟨c, w, h, τ, hc, w1, w2, g1, g2, e5, e6, e24, e25, hcl, ho, hf, -, ht⟩ := sctx2 hI h12
  have hc' := pn.1.1
  obtain rfl : c' = c := (nI_eq (by omega) (by omega)).mp (pn.2.1.1.symm.trans e5)
  have hwh := wh_le w2 g2
  obtain ⟨w', h', r', k', ⟨w1', w2', g1', g2', -⟩, ⟨e24', e25', -, -⟩, hgr, -⟩ := id pg
  obtain rfl : w' = w := (nI_eq (by omega) (by omega)).mp (e24'.symm.trans e24)
  obtain rfl : h' = h := (nI_eq (by omega) (by omega)).mp (e25'.symm.trans e25)
  have h16 : I 16 1 = nI (w' * h') := hgr.2.1
  obtain ⟨T, hTd⟩ : ∃ T, T = w' * h' := ⟨_, rfl⟩
  rw [← hTd] at hwh h16 hcl ht
  have hcell := pn.2.2.1
  have h45 : ∀ i, i < c' → I 45 i = I 2 i := fun i hi => (hcell i hi).1
  obtain ⟨no', K, D, W, t1, t2, k1, hW, t3, t4, t5, t6⟩ := pe.2.1 h11
  have hwf := kOk_wf hc k1
  have hK : ∀ g, g < c' → I 2 g = 2 → (K g).2 0 < 2 ^ g ∧ ct_pop 32 ((K g).2 0) ≤ 4 := fun g hg hs => (hwf g hg).1.2.2 0 ((hwf g hg).2.2 hs)
  have hWt : ∀ i, i < c' → ¬ I 55 i = 0 → W i = true := by
    intro i hi z
    rw [t4 i hi] at z
    by_cases q : W i = true
    · exact q
    · rw [if_neg q] at z; exact absurd rfl z
  have hex : ∀ i, ∃ (s k b : Nat) (l : Nat → Nat), i < c' → thg I i → (s < 3 ∧ k ≤ 4 ∧ b < 65536 ∧ I 2 i = nI s ∧ I 45 i = nI s ∧ (s = 0 → k = 0) ∧ (s = 1 → k = 1 ∧ I 3 i = nI (l 0) ∧ I 46 i = nI (l 0)) ∧ (s = 2 → I 12 i = nI k ∧ I 57 i = nI k ∧ (∀ j, j < k → I 14 (4 * i + j) = nI (l j) ∧ I 56 (4 * i + j) = nI (l j)) ∧ I 13 i = nI b ∧ I 58 i = nI b) ∧ ∀ j, j < k → l j < 256) := by
    intro i
    by_cases hh : i < c' ∧ thg I i
    · obtain ⟨hi, hth⟩ := hh
      obtain ⟨c1, c2, c3, g | g | g⟩ := hcell i hi
      · exact ⟨0, 0, 0, fun _ => 0, fun _ _ => ⟨by decide, by decide, by decide, g.1, by rw [c1]; exact g.1, fun _ => rfl, fun z => absurd z (by decide), fun z => absurd z (by decide), fun j hj => absurd hj (Nat.not_lt_zero _)⟩⟩
      · obtain ⟨g0, ⟨s, s1, s2⟩, -⟩ := g
        exact ⟨1, 1, 0, fun _ => s, fun _ _ => ⟨by decide, by decide, by decide, g0, by rw [c1]; exact g0, fun z => absurd z (by decide), fun _ => ⟨rfl, s2, by rw [c2]; exact s2⟩, fun z => absurd z (by decide), fun j hj => by show s < 256; omega⟩⟩
      · have h55 : ¬ I 55 i = 0 := hth.resolve_left (fun z => z (by rw [c1]; exact g.1))
        have hw := hWt i hi h55
        obtain ⟨y1, y2, y3, b, y4, y5, y6⟩ := t6 i hi hw
        obtain ⟨q1, q2⟩ := hK i hi g.1
        have hpu : ct_pop i ((K i).2 0) = ct_pop 32 ((K i).2 0) := (ct_pop_ext q1 32 (by omega)).symm
        generalize hN : ct_pop 32 ((K i).2 0) = N at *
        have hlet : ∀ j, j < N → ∃ a, a < 256 ∧ I 14 (4 * i + j) = nI a ∧ I 56 (4 * i + j) = nI a := by
          intro j hj
          obtain ⟨l, l1, l2, l3⟩ := ct_pop_at ((K i).2 0) i j (by omega)
          obtain ⟨z1, z2⟩ := y3 l l1 l2
          rw [l3] at z1 z2
          exact ⟨l, by omega, z1, z2⟩
        refine ⟨2, N, b, fun j => if hj : j < N then (hlet j hj).choose else 0, fun _ _ => ⟨by decide, q2, y4, g.1, by rw [c1]; exact g.1, fun z => absurd z (by decide), fun z => absurd z (by decide), fun _ => ⟨y1, y2, fun j hj => ?_, y5, y6⟩, fun j hj => ?_⟩⟩
        · show I 14 (4 * i + j) = nI (if hj : j < N then (hlet j hj).choose else 0) ∧ I 56 (4 * i + j) = nI (if hj : j < N then (hlet j hj).choose else 0)
          rw [dif_pos hj]
          exact (hlet j hj).choose_spec.2
        · show (if hj : j < N then (hlet j hj).choose else 0) < 256
          rw [dif_pos hj]
          exact (hlet j hj).choose_spec.1
    · exact ⟨0, 0, 0, fun _ => 0, fun z1 z2 => absurd ⟨z1, z2⟩ hh⟩
  obtain ⟨srt, kk, bb, ℓ, hdat⟩ : ∃ (srt kk bb : Nat → Nat) (ℓ : Nat → Nat → Nat), ∀ i, i < c' → thg I i → (srt i < 3 ∧ kk i ≤ 4 ∧ bb i < 65536 ∧ I 2 i = nI (srt i) ∧ I 45 i = nI (srt i) ∧ (srt i = 0 → kk i = 0) ∧ (srt i = 1 → kk i = 1 ∧ I 3 i = nI (ℓ i 0) ∧ I 46 i = nI (ℓ i 0)) ∧ (srt i = 2 → I 12 i = nI (kk i) ∧ I 57 i = nI (kk i) ∧ (∀ j, j < kk i → I 14 (4 * i + j) = nI (ℓ i j) ∧ I 56 (4 * i + j) = nI (ℓ i j)) ∧ I 13 i = nI (bb i) ∧ I 58 i = nI (bb i)) ∧ ∀ j, j < kk i → ℓ i j < 256) :=
    ⟨fun i => (hex i).choose, fun i => (hex i).choose_spec.choose, fun i => (hex i).choose_spec.choose_spec.choose, fun i => (hex i).choose_spec.choose_spec.choose_spec.choose, fun i => (hex i).choose_spec.choose_spec.choose_spec.choose_spec⟩
  have hPt : ∀ i, thB I i = true ↔ thg I i := fun i => decide_eq_true_iff
  have hfdC : fdC c' (thB I) srt kk ℓ bb I := by
    intro i hi hP
    obtain ⟨a1, a2, a3, a4, a5, a6, a7, a8, a9⟩ := hdat i hi ((hPt i).mp hP)
    exact ⟨a1, a2, a3, a4, a6, fun z => ⟨(a7 z).1, (a7 z).2.1⟩, fun z => ⟨(a8 z).1, fun j hj => ((a8 z).2.2.1 j hj).1, (a8 z).2.2.2.1⟩⟩
  obtain ⟨p22, p23, -, p24, -⟩ := id hcl
  have hlen9 : ∀ i, i < c' → thB I i = true → (lsT srt kk ℓ bb i).length ≤ 9 := by
    intro i hi hP
    obtain ⟨a1, a2, -⟩ := hdat i hi ((hPt i).mp hP)
    have : (lsT srt kk ℓ bb i).length = 3 + kk i + if srt i = 2 then 2 else 0 := lst_len _ _ _ _ _
    rw [this]
    split <;> omega
  obtain ⟨R, hR⟩ : ∃ R, R = roT c' (thB I) τ srt kk ℓ bb := ⟨_, rfl⟩
  obtain ⟨tl, htl⟩ : ∃ tl, tl = fun t => tlO c' (thB I) τ srt kk ℓ bb t := ⟨_, rfl⟩
  have hRt : ∀ t, R t = tl t ++ [smL (tl t)] := fun t => by rw [hR, htl]; rfl
  have hRl : ∀ t, (R t).length = (tl t).length + 1 := fun t => by rw [hRt, len_1]
  have h324 : (ptL R T).length ≤ 324 := by
    have q1 := pt_sz (τ := τ) hlen9 T
    have q2 := ct_cnt_le (fun i => thB I i && decide (τ i < T)) c'
    rw [hR]
    omega
  obtain ⟨s1, s2, s3, s4, s5, s6⟩ := pe.2.2.1 h12
  have hsz : ∀ t, t < T → (tl t).length ≤ 36 := by
    intro t htT
    have q1 := tl_sz (τ := τ) (t := t) hlen9 c' (Nat.le_refl _)
    have q2 := (s4 t (by omega)).2
    have q3 : ct_cnt (inT (thB I) τ t) c' = ld I c' t := by
      refine ct_cnt_congr c' (fun i hi => ?_)
      by_cases hth : thg I i
      · obtain ⟨y1, y2⟩ := ht i hi hth
        show (thB I i && decide (τ i = t)) = decide (thg I i ∧ I 61 i = nI t)
        rw [(hPt i).mpr hth, Bool.true_and, y1]
        refine decide_eq_decide.mpr ⟨fun z => ⟨hth, by rw [z]⟩, fun z => (nI_eq (by omega) (by omega)).mp z.2⟩
      · have e1 : thB I i = false := by
          cases q : thB I i with
          | false => rfl
          | true => exact absurd ((hPt i).mp q) hth
        show (thB I i && decide (τ i = t)) = decide (thg I i ∧ I 61 i = nI t)
        rw [e1, Bool.false_and]
        exact (decide_eq_false (fun z => hth z.1)).symm
    rw [htl]
    show (tlL (inT (thB I) τ) (lsT srt kk ℓ bb) t c').length ≤ 36
    omega
  /- the class -/
  obtain ⟨B', v1, v2, v3, v4⟩ := w8_ok n hn hc hwh (τ := τ) I J hfdC p22 p23 p24 h16 (by rw [← hR]; exact h324) n 0 I (Nat.zero_le _) (by omega) (fun _ _ _ => rfl) (fun s hs => absurd hs (Nat.not_lt_zero _)) (fun i _ _ hs => absurd hs (Nat.not_lt_zero _))
  rw [← hR] at v1 v3 v4
  obtain ⟨Yc, hYc⟩ : ∃ Yc, Yc = upM (wmem B' (ptL R T)) 34 0 1 := ⟨_, rfl⟩
  have hw : fX1_write n I J = some (Yc, J) := by
    unfold fX1_write
    have e0 : upM I 34 1 0 = wmem I (ptL R 0) := by
      funext a b
      rw [upM_get]
      unfold wmem
      rw [if_neg (show ¬ (a = 35 ∧ b < (ptL R 0).length) from fun z => absurd z.2 (Nat.not_lt_zero _))]
      by_cases ha : a = 34
      · by_cases hb : b = 1
        · rw [if_pos ha, if_pos hb, if_pos ⟨ha, hb⟩]; rfl
        · rw [if_pos ha, if_neg hb, if_neg (fun z => hb z.2)]
      · rw [if_neg ha, if_neg (fun z => ha z.1)]
    simp only [lt]
    rw [e0, hYc]
    exact v1
  have yc : ∀ a, a ≠ 34 → a ≠ 35 → a ≠ 36 → a ≠ 37 → Yc a = I a := fun a q1 q2 q3 q4 => by rw [hYc, upM_ne a q1, wmem_at q1 q2]; exact v2 a q3 q4
  have yc34 : Yc 34 1 = nI (ptL R T).length := by rw [hYc, upM_get, if_pos rfl, if_neg (by decide), wmem_size]
  rw [if_neg h22, hw]
  simp only [Option.bind_some]
  rw [begin_eq n (by omega)]
  simp only [Option.bind_some]
  refine tot_some.mpr ?_
  show tot (fX10_frames n (begF Yc) J) (fun q => begF Yc 34 1 = q.1 ∧ Inv m q.2.1 q.2.2)
  rw [begF_at 34 (by decide) (by decide) (by decide), yc34]
  /- the reference -/
  obtain ⟨M, hM⟩ : ∃ M, M = begF Yc := ⟨_, rfl⟩
  have mI : ∀ a, a ≠ 34 → a ≠ 35 → a ≠ 36 → a ≠ 37 → a ≠ 38 → a ≠ 39 → a ≠ 40 → M a = I a := fun a q1 q2 q3 q4 q5 q6 q7 => by rw [hM, begF_at a q5 q6 q7]; exact yc a q1 q2 q3 q4
  have mI' : ∀ (l : List Nat), (∀ a ∈ l, a < 34 ∨ 40 < a) → ∀ a ∈ l, M a = I a := fun l hl a ha => by
    have := hl a ha
    exact mI a (by omega) (by omega) (by omega) (by omega) (by omega) (by omega) (by omega)
  have m44 : M 44 = I 44 := mI' [44] (by decide) 44 (by decide)
  have hM24 : M 44 24 * M 44 25 = nI T := by rw [m44, e24, e25, pk_mul, hTd]
  have hfdR : fdR c' (thB I) srt kk ℓ bb M := by
    intro i hi hP
    obtain ⟨a1, a2, a3, a4, a5, a6, a7, a8, a9⟩ := hdat i hi ((hPt i).mp hP)
    rw [mI' [45] (by decide) 45 (by decide), mI' [46] (by decide) 46 (by decide), mI' [56] (by decide) 56 (by decide), mI' [57] (by decide) 57 (by decide), mI' [58] (by decide) 58 (by decide)]
    exact ⟨a1, a2, a3, a5, a6, fun z => ⟨(a7 z).1, (a7 z).2.2⟩, fun z => ⟨(a8 z).2.1, fun j hj => ((a8 z).2.2.1 j hj).2, (a8 z).2.2.2.2⟩, a9⟩
  obtain ⟨Br, x1, x2, x3⟩ := f41_ok n hn hc hwh (P := thB I) (τ := τ) M J (fun i _ => by rw [hPt i]; unfold thg; rw [mI' [45] (by decide) 45 (by decide), mI' [55] (by decide) 55 (by decide)]) hfdR (by rw [m44]; exact e6) (fun i hi hP => by rw [mI' [61] (by decide) 61 (by decide)]; exact ht i hi ((hPt i).mp hP)) (fun t htT => by have := hsz t htT; rw [htl] at this; exact this) n 0 M (Nat.zero_le _) (by omega) (fun _ _ => rfl) (fun i hi => absurd hi (Nat.not_lt_zero _))
  have x1' : lX10_frames_41 n n 0 0 (rmem M (fun _ => []) T) J = lX10_frames_188 n n 0 0 (rmem Br tl T) J := by rw [htl]; exact x1
  have x4 := f188_ok n hn hwh (tl := tl) Br J (by rw [x2 44 (by decide)]; exact hM24) hsz n 0 (Nat.zero_le _) (by omega)
  have eR : (fun t => tl t ++ [smL (tl t)]) = R := by funext t; exact (hRt t).symm
  have e0 : (fun t => if t < 0 then tl t ++ [smL (tl t)] else tl t) = tl := by funext t; exact if_neg (Nat.not_lt_zero _)
  rw [eR, e0] at x4
  obtain ⟨Q, hQ⟩ : ∃ Q, Q = upM (rmem Br (fun t => if t < T then tl t ++ [smL (tl t)] else tl t) T) 44 14 1 := ⟨_, rfl⟩
  rw [← hQ] at x4
  have qI : ∀ a, a ≠ 44 → a ≠ 68 → a ≠ 69 → a ≠ 70 → Q a = M a := fun a q1 q2 q3 q4 => by rw [hQ, upM_ne a q1, rmem_at q2 q3]; exact x2 a q4
  have q44 : ∀ j, Q 44 j = if j = 14 then 1 else I 44 j := fun j => by rw [hQ, upM_get, if_pos rfl, rmem_at (by decide) (by decide), x2 44 (by decide), m44]
  have hbg := begins_eq n c' (by omega) hc Q J (by rw [q44, if_neg (by decide)]; exact e6)
  have hfr : fX10_frames n M J = some (nI (ptL R T).length, bgnF Q c', J) := by
    unfold fX10_frames
    rw [if_neg (by rw [m44, h12]; decide), f18_ok n hn hwh M J hM24, x1']
    refine Eq.trans ?_ (x4.trans ?_)
    · rfl
    · rw [hbg]; rfl
  rw [← hM, hfr]
  refine tot_some.mpr ⟨rfl, ?_⟩
  show Inv m (bgnF Q c') J
  /- the state without its runs -/
  obtain ⟨Y, hY⟩ : ∃ Y : MI, Y = fun a b => if a = 38 ∨ a = 39 ∨ a = 40 then I a b else Q a b := ⟨_, rfl⟩
  have yQ : ∀ a, a ≠ 38 → a ≠ 39 → a ≠ 40 → Y a = Q a := fun a q1 q2 q3 => by
    rw [hY]; funext b; exact if_neg (by omega)
  have yR : ∀ a, (a = 38 ∨ a = 39 ∨ a = 40) → Y a = I a := fun a q => by
    rw [hY]; funext b; exact if_pos q
  have y1 : Y 1 = I 1 := by rw [yQ 1 (by decide) (by decide) (by decide), qI 1 (by decide) (by decide) (by decide) (by decide)]; exact mI' [1] (by decide) 1 (by decide)
  have hbY : begF Y = Q := by
    funext a b
    by_cases h38 : a = 38
    · subst h38
      rw [begF_38, yR 38 (Or.inl rfl), qI 38 (by decide) (by decide) (by decide) (by decide), hM, begF_38, yc 38 (by decide) (by decide) (by decide) (by decide)]
    · by_cases h39 : a = 39 ∨ a = 40
      · rw [begF_v h39, yR a (Or.inr h39), qI a (by omega) (by omega) (by omega) (by omega), hM, begF_v h39, yc a (by omega) (by omega) (by omega) (by omega)]
        unfold begV
        rw [y1, yc 1 (by decide) (by decide) (by decide) (by decide)]
      · rw [begF_at a h38 (by omega) (by omega), yQ a h38 (by omega) (by omega)]
  rw [← hbY]
  have yI : ∀ a, a ≠ 34 → a ≠ 35 → a ≠ 36 → a ≠ 37 → a ≠ 44 → a ≠ 68 → a ≠ 69 → a ≠ 70 → Y a = I a := by
    intro a q1 q2 q3 q4 q5 q6 q7 q8
    by_cases h : a = 38 ∨ a = 39 ∨ a = 40
    · exact yR a h
    · rw [yQ a (by omega) (by omega) (by omega), qI a q5 q6 q7 q8]
      exact mI a q1 q2 q3 q4 (by omega) (by omega) (by omega)
  have yI' : ∀ (l : List Nat), (∀ a ∈ l, a ≠ 34 ∧ a ≠ 35 ∧ a ≠ 36 ∧ a ≠ 37 ∧ a ≠ 44 ∧ a ≠ 68 ∧ a ≠ 69 ∧ a ≠ 70) → ∀ a ∈ l, Y a = I a := fun l hl a ha => yI a (hl a ha).1 (hl a ha).2.1 (hl a ha).2.2.1 (hl a ha).2.2.2.1 (hl a ha).2.2.2.2.1 (hl a ha).2.2.2.2.2.1 (hl a ha).2.2.2.2.2.2.1 (hl a ha).2.2.2.2.2.2.2
  have y44 : ∀ j, Y 44 j = if j = 14 then 1 else I 44 j := fun j => by rw [yQ 44 (by decide) (by decide) (by decide)]; exact q44 j
  have y44' : ∀ (l : List Nat), (∀ j ∈ l, j ≠ 14) → ∀ j ∈ l, Y 44 j = I 44 j := fun l hl j hj => by rw [y44 j, if_neg (hl j hj)]
  have yC : ∀ a, (a = 34 ∨ a = 35 ∨ a = 36 ∨ a = 37) → Y a = Yc a := fun a ha => by
    rw [yQ a (by omega) (by omega) (by omega), qI a (by omega) (by omega) (by omega) (by omega), hM, begF_at a (by omega) (by omega) (by omega)]
  have y34 : Y 34 0 = 1 := by rw [yC 34 (Or.inl rfl), hYc, upM_get, if_pos rfl, if_pos rfl]
  have y35 : ∀ b, b < (ptL R T).length → Y 35 b = nI (at0 (ptL R T) b) := fun b hb => by rw [yC 35 (by omega), hYc, upM_ne 35 (by decide), wmem_35 hb]
  have y36 : ∀ s, s ≤ T → Y 36 s = nI (ptL R s).length := fun s hs => by rw [yC 36 (by omega), hYc, upM_ne 36 (by decide), wmem_at (by decide) (by decide)]; exact v3 s hs
  have y37 : ∀ i, i < c' → thg I i → Y 37 i = nI ((ptL R (τ i)).length + (tlL (inT (thB I) τ) (lsT srt kk ℓ bb) (τ i) i).length + 3) := fun i hi hth => by rw [yC 37 (by omega), hYc, upM_ne 37 (by decide), wmem_at (by decide) (by decide)]; exact v4 i hi ((hPt i).mpr hth)
  have eRR : ∀ t, t < T → (if t < T then tl t ++ [smL (tl t)] else tl t) = R t := fun t htT => by rw [hRt]; exact if_pos htT
  have y68 : ∀ t, t < T → ∀ j, j < (R t).length → Y 68 (40 * t + j) = nI (at0 (R t) j) := fun t htT j hj => by
    have := hRl t
    have := hsz t htT
    rw [yQ 68 (by decide) (by decide) (by decide), hQ, upM_ne 68 (by decide), rmem_68 htT (by rw [eRR t htT]; exact hj) (by omega), eRR t htT]
  have y69 : ∀ t, t < T → Y 69 t = nI (R t).length := fun t htT => by
    rw [yQ 69 (by decide) (by decide) (by decide), hQ, upM_ne 69 (by decide), rmem_69 htT, eRR t htT]
  have y70 : ∀ i, i < c' → thg I i → Y 70 i = nI (40 * τ i + (tlL (inT (thB I) τ) (lsT srt kk ℓ bb) (τ i) i).length) := fun i hi hth => by
    rw [yQ 70 (by decide) (by decide) (by decide), hQ, upM_ne 70 (by decide), rmem_at (by decide) (by decide)]
    exact x3 i hi ((hPt i).mpr hth)
  have hst : ∀ t, t < T → (ptL R t).length + (R t).length ≤ 324 := fun t htT => by
    have q1 := ptL_mono R (a := t + 1) T (by omega)
    have q2 : (ptL R (t + 1)).length = (ptL R t).length + (R t).length := by
      rw [← List.length_append]; rfl
    omega
  have h256 : ∀ t, t < T → ∀ j, at0 (R t) j < 256 := by
    intro t htT
    refine at0_mem (fun v hv => ?_)
    rw [hRt] at hv
    rcases List.mem_append.mp hv with q | q
    · rw [htl] at q
      refine tlL_mem (P := inT (thB I) τ) (ls := lsT srt kk ℓ bb) (t := t) (c := c') (fun i hi hin => ?_) c' (Nat.le_refl _) v q
      obtain ⟨a1, a2, a3, -, -, -, -, -, a9⟩ := hdat i hi ((hPt i).mp (inT_iff.mp hin).1)
      exact lst_mem (by omega) (by omega) (by omega) a9 a3
    · simp only [List.mem_cons, List.not_mem_nil, or_false] at q
      rw [q]
      exact (smL_eq _).2
  have hth' : ∀ i, thg Y i ↔ thg I i := fun i => by
    unfold thg
    rw [yI' [45] (by decide) 45 (by decide), yI' [55] (by decide) 55 (by decide)]
  refine Inv_beg (by omega) (PR_fr (yI' _ (by decide)) pr) (PQ_fr (yI' _ (by decide)) (y44' [48] (by decide) 48 (by decide)) pq) ?_ (PN_fr (yI' _ (by decide)) (y44' _ (by decide)) pn) ⟨PG_fr (yI' _ (by decide)) (y44' _ (by decide)) rfl pg, PW_fr (yI' _ (by decide)) (y44' [13] (by decide) 13 (by decide)) rfl pw, PP_fr (yI' _ (by decide)) (y44' [12] (by decide) 12 (by decide)) pp, ?_, PK_fr (yI' _ (by decide)) (y44' [15] (by decide) 15 (by decide)) rfl pe.1, PT_fr (yI' _ (by decide)) (by rw [yI' [11] (by decide) 11 (by decide)]) (by rw [yI' [11] (by decide) 11 (by decide)]) (y44' [11] (by decide) 11 (by decide)) pe.2.1, PS_fr (yI' _ (by decide)) (by rw [yI' [16] (by decide) 16 (by decide)]) (by rw [yI' [22] (by decide) 22 (by decide)]) (y44' [12] (by decide) 12 (by decide)) pe.2.2.1, ⟨?_, PL_fr (yI' _ (by decide)) (by rw [yI' [16] (by decide) 16 (by decide)]) (y44' [13] (by decide) 13 (by decide)) pe.2.2.2.1.2⟩, PC_fr (yI' [1] (by decide) 1 (by decide)) (yI' [2] (by decide) 2 (by decide)) pe.2.2.2.2⟩
  · obtain ⟨⟨p1, p2, p3, p4⟩, ⟨p5, p6, p7, p8⟩, p9, p10, p11⟩ := pf
    unfold Pf
    rw [y34, y44 14, if_pos rfl, y44' [11] (by decide) 11 (by decide), y44' [12] (by decide) 12 (by decide), y44' [13] (by decide) 13 (by decide), yI' [11] (by decide) 11 (by decide), yI' [22] (by decide) 22 (by decide), yI' [28] (by decide) 28 (by decide)]
    exact ⟨⟨p1, p2, p3, rfl⟩, ⟨p5, p6, p7, Or.inr rfl⟩, p9, p10, fun _ => h12⟩
  · intro _
    refine ⟨T, hwh, by rw [yI' [16] (by decide) 16 (by decide)]; exact h16, fun t htT => ?_⟩
    have q1 := hRl t
    have q2 := hsz t htT
    refine ⟨(ptL R t).length, (R t).length, by omega, by omega, hst t htT, y36 t (by omega), ?_, y69 t htT, fun j hj => ?_⟩
    · rw [y36 (t + 1) (by omega)]
      have q3 : (ptL R (t + 1)).length = (ptL R t).length + (R t).length := by
        rw [← List.length_append]; rfl
      rw [q3]
    · obtain ⟨x, hx⟩ := ptL_at R T htT
      have q4 : (ptL R t).length + j < (ptL R T).length := by rw [hx, List.length_append, List.length_append]; omega
      rw [y35 _ q4, y68 t htT j hj, hx, at0_r, at0_l _ _ _ hj]
      exact ⟨rfl, at0 (R t) j, h256 t htT j, rfl⟩
  · intro _ i hi hthY
    have hth := (hth' i).mp hthY
    obtain ⟨z1, z2⟩ := ht i hi hth
    have q1 := hRl (τ i)
    have q2 := hsz (τ i) z2
    obtain ⟨a1, a2, a3, a4, a5, a6, a7, a8, a9⟩ := hdat i hi hth
    have hin : inT (thB I) τ (τ i) i = true := inT_iff.mpr ⟨(hPt i).mpr hth, rfl⟩
    have hnext : tlL (inT (thB I) τ) (lsT srt kk ℓ bb) (τ i) (i + 1) = tlL (inT (thB I) τ) (lsT srt kk ℓ bb) (τ i) i ++ lsT srt kk ℓ bb i := if_pos hin
    have q3 := tlL_mono (inT (thB I) τ) (lsT srt kk ℓ bb) (τ i) (a := i + 1) c' (by omega)
    have hll : (lsT srt kk ℓ bb i).length = 3 + kk i + if srt i = 2 then 2 else 0 := lst_len _ _ _ _ _
    rw [hnext, List.length_append, hll] at q3
    have q5 : (tl (τ i)).length = (tlL (inT (thB I) τ) (lsT srt kk ℓ bb) (τ i) c').length := by rw [htl]
    have hsv : ∀ v : Nat, v < 3 → I 45 i = nI v → srt i = v := fun v hv z => (nI_eq (by omega) (by omega)).mp (a5.symm.trans z)
    refine ⟨τ i, (ptL R (τ i)).length, (R (τ i)).length, (tlL (inT (thB I) τ) (lsT srt kk ℓ bb) (τ i) i).length, by omega, ⟨by omega, hst _ z2⟩, by rw [yI' [61] (by decide) 61 (by decide)]; exact z1, y36 _ (by omega), y69 _ z2, y37 i hi hth, y70 i hi hth, fun hs => ?_, fun hs => ?_⟩
    · rw [yI' [45] (by decide) 45 (by decide)] at hs
      have hs1 := hsv 1 (by decide) hs
      have := (a7 hs1).1
      rw [if_neg (by omega)] at q3
      omega
    · rw [yI' [45] (by decide) 45 (by decide)] at hs
      have hs2 := hsv 2 (by decide) hs
      rw [if_pos hs2] at q3
      exact ⟨kk i, a2, by rw [yI' [57] (by decide) 57 (by decide)]; exact (a8 hs2).2.1, by omega⟩
