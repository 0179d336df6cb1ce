/-! smooth: the call -/
theorem things_eq (n : Nat) (hn : 2400 < n) {c : Nat} (hc : c ≤ 32) (I : MI) (J : MJ) (h6 : I 44 6 = nI c) : fX10_things n I J = some (nI (tn I c), I, J) := by
  have l : ∀ q k, k ≤ c → c < q + k → lX10_things_4 n q (nI (tn I k)) (nI k) I J = some (nI (tn I c), I, J) := by
    intro q
    induction q with
    | zero => intro k h1 h2; omega
    | succ q ih =>
      intro k h1 h2
      have e : ∀ a b, lX10_things_4 n (q + 1) a b I J = fX10_things_4 n (lX10_things_4 n q) a b I J := fun _ _ => rfl
      rw [e]
      unfold fX10_things_4 fX10_things_26
      rw [h6]
      by_cases hk : k = c
      · subst hk
        rw [if_pos (Int32.le_refl _)]
      rw [if_neg (nI_ge (by omega) (by omega)), isThing_eq n (by omega), nI_1]
      simp only [Option.bind_some, lt]
      have ih' := ih (k + 1) (by omega) (by omega)
      have hs := tn_s I k
      by_cases hth : thg I k
      · rw [if_pos (decide_eq_true hth)] at hs
        rw [b2_t hth, if_neg (by decide), nI_1, ← hs]
        exact ih'
      · rw [if_neg (fun q => hth (of_decide_eq_true q))] at hs
        rw [b2_f hth, if_pos rfl, show (0 : Int32) = nI 0 from rfl, nI_add, Nat.add_zero, ← hs]
        exact ih'
  exact l n 0 (Nat.zero_le _) (by omega)
theorem B_smooth_ok (n : Nat) (hn : 2400 < n) : B_smooth Inv n := by
  intro x s m I J hI
  obtain ⟨pr, pq, pf, c', ni, nk, no, pn, ⟨pu, pg, pw, pp, pfr, pe⟩⟩ := id hI
  have f22 := pf.1.2.1
  have u44 : ∀ (j : Nat) (v : Int32), upM I 43 j v 44 = I 44 := fun j v => up43 (by decide)
  unfold fX9_smooth
  by_cases x0 : 0 ≤ x
  case neg =>
    rw [if_neg x0, ref_4]
    simp only [Option.bind_some]
    refine rr (j := 2) (f := fX10_smooth n x s) (by decide) hI ?_
    unfold fX10_smooth
    rw [if_neg x0, no_4]
    rfl
  rw [if_pos x0]
  by_cases x1 : x ≤ 1000
  case neg =>
    rw [if_neg x1, ref_7]
    simp only [Option.bind_some]
    refine rr (j := 5) (f := fX10_smooth n x s) (by decide) hI ?_
    unfold fX10_smooth
    rw [if_pos x0, if_neg x1, no_7]
    rfl
  rw [if_pos x1]
  by_cases h22 : I 22 0 = 0
  · rw [if_pos h22, ref_2]
    simp only [Option.bind_some]
    refine rr (j := 0) (f := fX10_smooth n x s) (by decide) hI ?_
    unfold fX10_smooth
    rw [if_pos x0, if_pos x1, u44, if_pos (by rw [← f22]; exact h22), no_2]
    rfl
  rw [if_neg h22, forgetWays_eq]
  simp only [Option.bind_some]
  have h12 : I 44 12 = 1 := pf.2.1.2.1.resolve_left (by rw [← f22]; exact h22)
  obtain ⟨T, hT31, rfl⟩ := nI_of (Int32.not_lt.mpr x0)
  have hT : T ≤ 1000 := (nI_leI (b := 1000) hT31 (by decide)).mp x1
  obtain ⟨c, w, h, τ, hc, w1, w2, g1, g2, e5, e6, e24, e25, hcl, ho, hf, hf', ht⟩ := sctx2 hI h12
  have hwh := wh_le w2 g2
  obtain ⟨w', h', r, k, ⟨w1', w2', g1', g2', -⟩, ⟨e24', e25', -, -⟩, hgr, -, -, -⟩ := pg
  obtain rfl : w' = w := (nI_eq (by omega) (by omega)).mp (e24'.symm.trans e24)
  obtain rfl : h' = h := (nI_eq (by omega) (by omega)).mp (e25'.symm.trans e25)
  have hcc := pn.1.1
  obtain rfl : c' = c := (nI_eq (by omega) (by omega)).mp (pn.2.1.2.1.symm.trans e6)
  obtain ⟨s1, s2, s3, s4, s5, s6⟩ := pe.2.2.1 h12
  have hTN := tn_le I c'
  have hF : ∀ u i, u < c' → feeds I u i → thB I u = true := fun u i hu hff => decide_eq_true (hf u i hu hff)
  generalize hC0 : upM (upM I 28 0 0) 34 0 0 = C0
  have C0x : ∀ x, x ≠ 28 → x ≠ 34 → C0 x = I x := fun x q1 q2 => by rw [← hC0, upM_ne x q2, upM_ne x q1]
  have C028 : C0 28 0 = 0 := by rw [← hC0, upM_ne 28 (by decide), upM_get, if_pos rfl, if_pos rfl]
  have C034 : C0 34 0 = 0 := by rw [← hC0, upM_get, if_pos rfl, if_pos rfl]
  have hcM : cMem c' I C0 τ C0 := ⟨fun _ _ => rfl, fun u hu hth => by rw [C0x 24 (by decide) (by decide)]; exact (hcl.2.2.2.1 u hu (decide_eq_true hth)).1, fun _ _ => rfl⟩
  have htl : ∀ u, u < c' → thg I u → τ u < w' * h' := fun u hu hth => (ht u hu hth).2
  obtain ⟨vv, hvv⟩ := cost_ex n hn hc hwh J hcl hF
  /- what the reference does in a memory that has the class's new places -/
  have ref : ∀ (C' : MI) (τ' : Nat → Nat) (v : Int32), cMem c' I C0 τ' C' → (∀ u, u < c' → thg I u → τ' u < w' * h') → (∀ t, tCnt (thB I) τ' c' t = tCnt (thB I) τ c' t) → (∃ M', lX10_smooth_60 n n (nI T) 0 (nI (tn I c')) s (nI (ct_sum (thB I) vv c')) 0 C' J = some (v, upM (upM M' 44 13 0) 44 14 0, J) ∧ rMem c' I C' τ' M') → tot (fX10_smooth n (nI T) s C' J) (fun q => v = q.1 ∧ Inv m q.2.1 q.2.2) := by
    intro C' τ' v hC' htl' hcn' ⟨M', hl, hM'⟩
    have Cx : ∀ x, x ≠ 24 → x ≠ 28 → x ≠ 34 → C' x = I x := fun x q1 q2 q3 => by rw [hC'.1 x q1, C0x x q2 q3]
    have C44 := Cx 44 (by decide) (by decide) (by decide)
    have C45 := Cx 45 (by decide) (by decide) (by decide)
    have C55 := Cx 55 (by decide) (by decide) (by decide)
    have Cth : ∀ i, thg C' i ↔ thg I i := fun i => by unfold thg; rw [C45, C55]
    have CthB : thB C' = thB I := by funext i; exact decide_eq_decide.mpr (Cth i)
    have Ctn : tn C' c' = tn I c' := ct_cnt_congr c' (fun i _ => decide_eq_decide.mpr (Cth i))
    have Cf : feeds C' = feeds I := by
      funext u f
      unfold feeds
      rw [C45, C55, Cx 46 (by decide) (by decide) (by decide), Cx 56 (by decide) (by decide) (by decide), Cx 57 (by decide) (by decide) (by decide)]
    have co : fX10_costs n C' J = some (nI (ct_sum (thB I) vv c'), C', J) := by
      rw [← CthB]
      refine costR_all n hn hc w1 w2 g1 g2 (τ := τ) (by rw [C44]; exact e6) (by rw [C44]; exact e24) (by rw [C44]; exact e25) (fun u hu => ?_) (fun u f hu hff => ?_) (fun u hu hth => ?_) ?_
      · have := ho u hu
        unfold uOk at this ⊢
        rw [C45, C55, Cx 46 (by decide) (by decide) (by decide), Cx 57 (by decide) (by decide) (by decide)]
        exact this
      · rw [Cf] at hff
        exact (Cth u).mpr (hf u f hu hff)
      · rw [Cx 61 (by decide) (by decide) (by decide)]
        exact ht u hu ((Cth u).mp hth)
      · rw [CthB, Cf]; exact hvv
    unfold fX10_smooth
    rw [if_pos x0, if_pos x1, C44, if_neg (by rw [h12]; decide), things_eq n hn hc C' J (by rw [C44]; exact e6), Ctn]
    simp only [Option.bind_some, lt]
    rw [co]
    simp only [Option.bind_some]
    rw [hl]
    have hMx : ∀ x, x ≠ 61 → M' x = C' x := hM'.1
    generalize hQ : upM (upM M' 44 13 0) 44 14 0 = Q
    have Qx : ∀ x, x ≠ 44 → Q x = M' x := fun x hx => by rw [← hQ, upM_ne x hx, upM_ne x hx]
    refine tot_some.mpr ⟨rfl, ?_⟩
    have hfin : Inv m Q J := by
      refine Inv_tau (τ := τ) (τ' := τ') hc e6 (fun u hu hth => ⟨(ht u hu hth).1, by have := (ht u hu hth).2; omega⟩) (fun u hu hth => ⟨by have := htl' u hu hth; omega, by rw [hgr.2.1]; exact nI_lt (htl' u hu hth) (by omega)⟩) hcn' (fun x q1 q2 q3 q4 q5 => by rw [Qx x q4, hMx x q5, Cx x q1 q2 q3]) (fun u hu hth => ?_) (fun u hu hth => ?_) (fun u hu hth => ?_) ?_ ?_ (fun j q1 q2 => ?_) ⟨?_, ?_⟩ h12 hI
      · rw [Qx 24 (by decide), hMx 24 (by decide)]; exact hC'.2.1 u hu hth
      · rw [Qx 24 (by decide), hMx 24 (by decide), hC'.2.2 u (fun z => hth z.2), C0x 24 (by decide) (by decide)]
      · rw [Qx 61 (by decide)]; exact hM'.2 u hu hth
      · rw [Qx 28 (by decide), hMx 28 (by decide), hC'.1 28 (by decide)]; exact C028
      · rw [Qx 34 (by decide), hMx 34 (by decide), hC'.1 34 (by decide)]; exact C034
      · rw [← hQ, upM_get, if_pos rfl, if_neg q2, upM_get, if_pos rfl, if_neg q1, hMx 44 (by decide), C44]
      · rw [← hQ, upM_get, if_pos rfl, if_neg (by decide), upM_get, if_pos rfl, if_pos rfl]
      · rw [← hQ, upM_get, if_pos rfl, if_pos rfl]
    exact hfin
  unfold fX5_tryExchanges
  have h221 : C0 22 1 = nI (tn I c') := by rw [C0x 22 (by decide) (by decide)]; exact s1
  rw [h221]
  by_cases hz : tn I c' = 0
  · rw [if_neg (by rw [hz]; decide)]
    simp only [Option.bind_some]
    refine tot_some.mpr ?_
    refine ref C0 τ 0 hcM htl (fun _ => rfl) ⟨C0, ?_, fun _ _ => rfl, fun u hu hth => by rw [C0x 61 (by decide) (by decide)]; exact (ht u hu hth).1⟩
    obtain ⟨n', rfl⟩ : ∃ z, n = z + 1 := ⟨n - 1, by omega⟩
    have e : ∀ a b c d e f, lX10_smooth_60 (n' + 1) (n' + 1) a b c d e f C0 J = fX10_smooth_60 (n' + 1) (lX10_smooth_60 (n' + 1) n') a b c d e f C0 J := fun _ _ _ _ _ _ => rfl
    rw [e]
    unfold fX10_smooth_60 fX10_smooth_170
    rw [hz, moved_eq]
    by_cases hT0 : nI T ≤ (0 : Int32)
    · rw [if_pos hT0]; rfl
    · rw [if_neg hT0, if_pos (by decide)]; rfl
  · rw [if_pos (show (0 : Int32) < nI (tn I c') from nI_lt (a := 0) (by omega) (by omega))]
    obtain ⟨v, τ', C', p1, p2, p3, p4, p5⟩ := sm_loop n hn (J := J) (τ0 := τ) hc w1 w2 g1 g2 e6 e24 e25 C0x hcl s5 ho hf hf' (show 1 ≤ tn I c' by omega) hT T 0 s 0 τ C0 (by omega) hcM htl (fun _ => rfl) n (by omega)
    have p1' : lX5_tryExchanges_18 n n (nI T) 0 s 0 C0 J = some (v, C', J) := p1
    rw [p1']
    simp only [Option.bind_some]
    refine tot_some.mpr ?_
    have Cx : ∀ x, x ≠ 24 → x ≠ 28 → x ≠ 34 → C' x = I x := fun x q1 q2 q3 => by rw [p2.1 x q1, C0x x q2 q3]
    exact ref C' τ' v p2 p3 p4 (p5 C' C' vv (fun x q1 q2 q3 _ => Cx x q1 q2 q3) ⟨fun _ _ => rfl, fun u hu hth => by rw [Cx 61 (by decide) (by decide) (by decide)]; exact (ht u hu hth).1⟩ hvv n (by omega))
