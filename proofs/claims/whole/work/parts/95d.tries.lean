/-! smooth: try by try on both sides -/
abbrev sdN (x : Int64) : Int64 := x * 6364136223846793005 + 1442695040888963407
theorem try_step (n : Nat) {k18 : Int32 → Int32 → Int64 → Int32 → MI → MJ → Option (Int32 × M2)} {x1 x5 x8 r : Int32} {x6 : Int64} {N k1 k2 a b : Nat} {C C' : MI} {J : MJ} (h0 : ¬ x1 ≤ x8) (hN1 : 1 ≤ N) (hN2 : N ≤ 32) (hN : C 22 1 = nI N) (hk1 : k1 < 32) (hk2 : k2 < 32) (e1 : (ushrL (sdN x6) 33 - ushrL (sdN x6) 33 / (nI N).toInt64 * (nI N).toInt64).toInt32 = nI k1) (e2 : (ushrL (sdN (sdN x6)) 33 - ushrL (sdN (sdN x6)) 33 / (nI N).toInt64 * (nI N).toInt64).toInt32 = nI k2) (h1 : C 23 k1 = nI a) (h2 : C 23 k2 = nI b) (hx : fX5_exchangeUnlessLonger n (nI a) (nI b) C J = some (r, C', J)) : fX5_tryExchanges_18 n k18 x1 x5 x6 x8 C J = k18 x1 (if r = 0 then x5 else x5 + 1) (sdN (sdN x6)) (x8 + 1) C' J := by
  have hz : nzL (nI N).toInt64 = true := by
    refine decide_eq_true (fun q => ?_)
    have := congrArg Int64.toInt q
    rw [Int32.toInt_toInt64, nI_toInt (by omega)] at this
    have z : (0 : Int64).toInt = 0 := by decide
    omega
  unfold fX5_tryExchanges_18 fX5_tryExchanges_102
  rw [if_neg h0]
  simp only [lt, hN, hz, if_true]
  rw [e1, if_pos (inb_nI hk1 (by decide)), clampI (by omega), h1, e2, if_pos (inb_nI hk2 (by decide)), clampI (by omega), h2, hx]
  simp only [Option.bind_some]
  by_cases q : r = 0
  · rw [if_pos q, if_pos q]
  · rw [if_neg q, if_neg q]
theorem sm_step (n : Nat) {k60 : Int32 → Int32 → Int32 → Int64 → Int32 → Int32 → MI → MJ → Option (Int32 × M2)} {x1 x4 x8 x9 V : Int32} {x6 : Int64} {N k1 k2 a b : Nat} {M M1 M2 : MI} {J : MJ} (h0 : ¬ x1 ≤ x9) (hN1 : 1 ≤ N) (hN2 : N ≤ 32) (e1 : (ushrL (sdN x6) 33).toInt32 - (ushrL (sdN x6) 33).toInt32 / nI N * nI N = nI k1) (e2 : (ushrL (sdN (sdN x6)) 33).toInt32 - (ushrL (sdN (sdN x6)) 33).toInt32 / nI N * nI N = nI k2) (t1 : fX10_thingAt n (nI k1) M J = some (nI a, M, J)) (t2 : fX10_thingAt n (nI k2) M J = some (nI b, M, J)) (sw : fX10_swaps n (nI a) (nI b) M J = some (M1, J)) (co : fX10_costs n M1 J = some (V, M1, J)) (sb : fX10_swaps n (nI a) (nI b) M1 J = some (M2, J)) : fX10_smooth_60 n k60 x1 x4 (nI N) x6 x8 x9 M J = if V ≤ x8 then k60 x1 (x4 + 1) (nI N) (sdN (sdN x6)) V (x9 + 1) M1 J else k60 x1 x4 (nI N) (sdN (sdN x6)) x8 (x9 + 1) M2 J := by
  have hz : nz (nI N) = true := decide_eq_true (nI_ne0 (by omega) (by omega))
  unfold fX10_smooth_60 fX10_smooth_164
  rw [if_neg h0, if_neg (show ¬ nI N ≤ (0 : Int32) from nI_ge (a := 0) (by omega) (by omega))]
  simp only [lt, hz, if_true]
  rw [e1, t1]
  simp only [Option.bind_some]
  rw [e2, t2]
  simp only [Option.bind_some]
  rw [sw]
  simp only [Option.bind_some]
  rw [co]
  simp only [Option.bind_some]
  by_cases q : V ≤ x8
  · rw [if_pos q, if_pos q]
  · rw [if_neg q, if_neg q, sb]
    rfl
theorem xch_back61 (C : MI) (a b : Nat) : upM (upM (upM (upM C 61 a (C 61 b)) 61 b (C 61 a)) 61 a (upM (upM C 61 a (C 61 b)) 61 b (C 61 a) 61 b)) 61 b (upM (upM C 61 a (C 61 b)) 61 b (C 61 a) 61 a) = C := by
  funext x y
  simp only [upM_get]
  by_cases hx : x = 61
  · subst hx
    by_cases hab : a = b
    · subst hab
      by_cases q : y = a <;> simp [q]
    · have hba : ¬ b = a := fun z => hab z.symm
      by_cases q1 : y = b
      · simp [q1, hba, hab]
      · by_cases q2 : y = a
        · simp [q2, hab]
        · simp [q1, q2]
  · simp [hx]
/-- a memory of the class, with places τ -/
def cMem (c : Nat) (I C0 : MI) (τ : Nat → Nat) (C : MI) : Prop := (∀ x, x ≠ 24 → C x = C0 x) ∧ (∀ u, u < c → thg I u → C 24 u = nI (τ u)) ∧ ∀ u, ¬ (u < c ∧ thg I u) → C 24 u = C0 24 u
/-- a memory of the reference, with places τ -/
def rMem (c : Nat) (I M0 : MI) (τ : Nat → Nat) (M : MI) : Prop := (∀ x, x ≠ 61 → M x = M0 x) ∧ (∀ u, u < c → thg I u → M 61 u = nI (τ u))
theorem cMem_swp {c a b : Nat} {I C0 C : MI} {τ : Nat → Nat} (ha : a < c) (hb : b < c) (hta : thg I a) (htb : thg I b) (h : cMem c I C0 τ C) : cMem c I C0 (swp τ a b) (upM (upM C 24 a (C 24 b)) 24 b (C 24 a)) := by
  obtain ⟨h1, h2, h3⟩ := h
  refine ⟨fun x hx => by rw [upM_ne x hx, upM_ne x hx]; exact h1 x hx, fun u hu hth => ?_, fun u hu => ?_⟩
  · rw [upM_get, if_pos rfl, upM_get, if_pos rfl]
    unfold swp
    by_cases q1 : u = b
    · rw [if_pos q1, if_pos q1]; exact h2 a ha hta
    · by_cases q2 : u = a
      · rw [if_neg q1, if_neg q1, if_pos q2, if_pos q2]; exact h2 b hb htb
      · rw [if_neg q1, if_neg q1, if_neg q2, if_neg q2]; exact h2 u hu hth
  · rw [upM_get, if_pos rfl, if_neg (fun q => hu (by rw [q]; exact ⟨hb, htb⟩)), upM_get, if_pos rfl, if_neg (fun q => hu (by rw [q]; exact ⟨ha, hta⟩))]
    exact h3 u hu
theorem rMem_swp {c a b : Nat} {I M0 M : MI} {τ : Nat → Nat} (ha : a < c) (hb : b < c) (hta : thg I a) (htb : thg I b) (h : rMem c I M0 τ M) : rMem c I M0 (swp τ a b) (upM (upM M 61 a (M 61 b)) 61 b (M 61 a)) := by
  obtain ⟨h1, h2⟩ := h
  refine ⟨fun x hx => by rw [upM_ne x hx, upM_ne x hx]; exact h1 x hx, fun u hu hth => ?_⟩
  rw [upM_get, if_pos rfl, upM_get, if_pos rfl]
  unfold swp
  by_cases q1 : u = b
  · rw [if_pos q1, if_pos q1]; exact h2 a ha hta
  · by_cases q2 : u = a
    · rw [if_neg q1, if_neg q1, if_pos q2, if_pos q2]; exact h2 b hb htb
    · rw [if_neg q1, if_neg q1, if_neg q2, if_neg q2]; exact h2 u hu hth
theorem sm_loop (n : Nat) (hn : 2400 < n) {c w h T : Nat} {I C0 : MI} {J : MJ} {τ0 : Nat → Nat} (hc : c ≤ 32) (w1 : 1 ≤ w) (w2 : w ≤ 6) (g1 : 1 ≤ h) (g2 : h ≤ 6) (e6 : I 44 6 = nI c) (e24 : I 44 24 = nI w) (e25 : I 44 25 = nI h) (hC0 : ∀ x, x ≠ 28 → x ≠ 34 → C0 x = I x) (hcl : clP c w (w * h) (thB I) (feeds I) τ0 I) (h26 : ∀ u, u < c → ∀ f, f < 32 → (bt (I 26 u) f = true ↔ feeds I u f)) (ho : ∀ u, u < c → uOk I u) (hf : ∀ u f, u < c → feeds I u f → thg I u) (hf' : ∀ u f, u < c → f < 32 → feeds I u f → f < c ∧ thg I f) (hN1 : 1 ≤ tn I c) (hT : T ≤ 1000) : ∀ d k s did τ C, k + d = T → cMem c I C0 τ C → (∀ u, u < c → thg I u → τ u < w * h) → (∀ t, tCnt (thB I) τ c t = tCnt (thB I) τ0 c t) → ∀ q, d < q → ∃ v τ' C', lX5_tryExchanges_18 n q (nI T) did s (nI k) C J = some (v, C', J) ∧ cMem c I C0 τ' C' ∧ (∀ u, u < c → thg I u → τ' u < w * h) ∧ (∀ t, tCnt (thB I) τ' c t = tCnt (thB I) τ0 c t) ∧ ∀ M0 M (vv : Nat → Nat), (∀ x, x ≠ 24 → x ≠ 28 → x ≠ 34 → x ≠ 61 → M0 x = I x) → rMem c I M0 τ M → (∀ i, i < c → thB I i = true → isCo (wt c (feeds I) τ i) w (vv i)) → ∀ q', d < q' → ∃ M', lX10_smooth_60 n q' (nI T) did (nI (tn I c)) s (nI (ct_sum (thB I) vv c)) (nI k) M J = some (v, upM (upM M' 44 13 0) 44 14 0, J) ∧ rMem c I M0 τ' M' := by
  have hwh := wh_le w2 g2
  have hTN := tn_le I c
  intro d
  induction d with
  | zero =>
    intro k s did τ C hk hC ht hcn q hq
    obtain ⟨q, rfl⟩ : ∃ z, q = z + 1 := ⟨q - 1, by omega⟩
    obtain rfl : k = T := by omega
    refine ⟨did, τ, C, ?_, hC, ht, hcn, fun M0 M vv hM0 hM hvv q' hq' => ?_⟩
    · show fX5_tryExchanges_18 n (lX5_tryExchanges_18 n q) _ _ _ _ _ _ = _
      unfold fX5_tryExchanges_18
      rw [if_pos (Int32.le_refl _)]
    · obtain ⟨q', rfl⟩ : ∃ z, q' = z + 1 := ⟨q' - 1, by omega⟩
      refine ⟨M, ?_, hM⟩
      show fX10_smooth_60 n (lX10_smooth_60 n q') _ _ _ _ _ _ _ _ = _
      unfold fX10_smooth_60 fX10_smooth_170
      rw [if_pos (Int32.le_refl _), moved_eq]
      rfl
  | succ d ih =>
    intro k s did τ C hk hC ht hcn q hq
    obtain ⟨q, rfl⟩ : ∃ z, q = z + 1 := ⟨q - 1, by omega⟩
    obtain ⟨k1, hk1, m1, m1'⟩ := seed_mod (sdN s) hN1 (show tn I c ≤ 32 by omega)
    obtain ⟨k2, hk2, m2, m2'⟩ := seed_mod (sdN (sdN s)) hN1 (show tn I c ≤ 32 by omega)
    obtain ⟨a, ha, hta, hka⟩ := tn_at I c k1 hk1
    obtain ⟨b, hb, htb, hkb⟩ := tn_at I c k2 hk2
    have hF : ∀ u i, u < c → feeds I u i → thB I u = true := fun u i hu hff => decide_eq_true (hf u i hu hff)
    have Cx : ∀ x, x ≠ 24 → x ≠ 28 → x ≠ 34 → C x = I x := fun x q1 q2 q3 => by rw [hC.1 x q1, hC0 x q2 q3]
    obtain ⟨l1, l2, l3, l4, l5⟩ := hcl
    have hclC : clP c w (w * h) (thB I) (feeds I) τ C := by
      refine ⟨by rw [Cx 22 (by decide) (by decide) (by decide)]; exact l1, by rw [Cx 23 (by decide) (by decide) (by decide)]; exact l2, by rw [Cx 27 (by decide) (by decide) (by decide)]; exact l3, fun u hu hP => ⟨hC.2.1 u hu (of_decide_eq_true hP), ht u hu (of_decide_eq_true hP)⟩, ?_⟩
      unfold colOk
      rw [Cx 17 (by decide) (by decide) (by decide), Cx 18 (by decide) (by decide) (by decide)]
      exact l5
    have hpa : thB I a = true := decide_eq_true hta
    have hpb : thB I b = true := decide_eq_true htb
    obtain ⟨v, hv⟩ := cost_ex n hn hc hwh J hclC hF
    obtain ⟨v', hv'⟩ := cost_ex n hn hc hwh J (clP_swp ha hb hpa hpb hclC) hF
    have hx := xul_ok n hn hc hwh (J := J) ha hb hpa hpb hclC hF (fun u f hu hf0 hff => ⟨(hf' u f hu hf0 hff).1, decide_eq_true (hf' u f hu hf0 hff).2⟩) (by rw [Cx 26 (by decide) (by decide) (by decide)]; exact h26) hv hv'
    have e : lX5_tryExchanges_18 n (q + 1) (nI T) did s (nI k) C J = fX5_tryExchanges_18 n (lX5_tryExchanges_18 n q) (nI T) did s (nI k) C J := rfl
    have h23a : C 23 k1 = nI a := by rw [Cx 23 (by decide) (by decide) (by decide), ← hka]; exact l2 a ha hpa
    have h23b : C 23 k2 = nI b := by rw [Cx 23 (by decide) (by decide) (by decide), ← hkb]; exact l2 b hb hpb
    have hstep := try_step n (k18 := lX5_tryExchanges_18 n q) (x5 := did) (show ¬ nI T ≤ nI k from nI_ge (by omega) (by omega)) hN1 (show tn I c ≤ 32 by omega) (by rw [Cx 22 (by decide) (by decide) (by decide)]; exact l1) (by omega) (by omega) m1 m2 h23a h23b hx
    rw [e, hstep, nI_1]
    /- the reference's step -/
    have rstep : ∀ M0 M (vv : Nat → Nat), (∀ x, x ≠ 24 → x ≠ 28 → x ≠ 34 → x ≠ 61 → M0 x = I x) → rMem c I M0 τ M → (∀ i, i < c → thB I i = true → isCo (wt c (feeds I) τ i) w (vv i)) → ∀ q', lX10_smooth_60 n (q' + 1) (nI T) did (nI (tn I c)) s (nI (ct_sum (thB I) vv c)) (nI k) M J = if ct_sum (thB I) v' c ≤ ct_sum (thB I) v c then lX10_smooth_60 n q' (nI T) (did + 1) (nI (tn I c)) (sdN (sdN s)) (nI (ct_sum (thB I) v' c)) (nI (k + 1)) (upM (upM M 61 a (M 61 b)) 61 b (M 61 a)) J else lX10_smooth_60 n q' (nI T) did (nI (tn I c)) (sdN (sdN s)) (nI (ct_sum (thB I) vv c)) (nI (k + 1)) M J := by
      intro M0 M vv hM0 hM hvv q'
      have hvs : ct_sum (thB I) vv c = ct_sum (thB I) v c := sum_congr c (fun i hi => ⟨rfl, fun hP => isCo_u (fun t => Iff.rfl) (hvv i hi hP) (hv i hi hP)⟩)
      have Mx : ∀ x, x ≠ 24 → x ≠ 28 → x ≠ 34 → x ≠ 61 → M x = I x := fun x q1 q2 q3 q4 => by rw [hM.1 x q4, hM0 x q1 q2 q3 q4]
      have M44 := Mx 44 (by decide) (by decide) (by decide) (by decide)
      have M45 := Mx 45 (by decide) (by decide) (by decide) (by decide)
      have M55 := Mx 55 (by decide) (by decide) (by decide) (by decide)
      have Mth : ∀ i, thg M i ↔ thg I i := fun i => by unfold thg; rw [M45, M55]
      have Mtn : ∀ k, tn M k = tn I k := fun k => ct_cnt_congr k (fun i _ => decide_eq_decide.mpr (Mth i))
      have t1 : fX10_thingAt n (nI k1) M J = some (nI a, M, J) := by
        rw [← hka, ← Mtn a]
        exact thingAt_eq n hn hc M J (by rw [M44]; exact e6) ha ((Mth a).mpr hta)
      have t2 : fX10_thingAt n (nI k2) M J = some (nI b, M, J) := by
        rw [← hkb, ← Mtn b]
        exact thingAt_eq n hn hc M J (by rw [M44]; exact e6) hb ((Mth b).mpr htb)
      have hM1 := rMem_swp ha hb hta htb hM
      have sw := swaps_eq n (show a < 32 by omega) (show b < 32 by omega) M J
      have sb := swaps_eq n (show a < 32 by omega) (show b < 32 by omega) (upM (upM M 61 a (M 61 b)) 61 b (M 61 a)) J
      rw [xch_back61] at sb
      generalize upM (upM M 61 a (M 61 b)) 61 b (M 61 a) = M1 at *
      have N1x : ∀ x, x ≠ 24 → x ≠ 28 → x ≠ 34 → x ≠ 61 → M1 x = I x := fun x q1 q2 q3 q4 => by rw [hM1.1 x q4, hM0 x q1 q2 q3 q4]
      have N45 := N1x 45 (by decide) (by decide) (by decide) (by decide)
      have N55 := N1x 55 (by decide) (by decide) (by decide) (by decide)
      have Nth : ∀ i, thg M1 i ↔ thg I i := fun i => by unfold thg; rw [N45, N55]
      have NthB : thB M1 = thB I := by funext i; exact decide_eq_decide.mpr (Nth i)
      have Nf : feeds M1 = feeds I := by
        funext u f
        unfold feeds
        rw [N45, N55, N1x 46 (by decide) (by decide) (by decide) (by decide), N1x 56 (by decide) (by decide) (by decide) (by decide), N1x 57 (by decide) (by decide) (by decide) (by decide)]
      have co : fX10_costs n M1 J = some (nI (ct_sum (thB I) v' c), M1, J) := by
        rw [← NthB]
        refine costR_all n hn hc w1 w2 g1 g2 (τ := swp τ a b) (by rw [N1x 44 (by decide) (by decide) (by decide) (by decide)]; exact e6) (by rw [N1x 44 (by decide) (by decide) (by decide) (by decide)]; exact e24) (by rw [N1x 44 (by decide) (by decide) (by decide) (by decide)]; exact e25) (fun u hu => ?_) (fun u f hu hff => ?_) (fun u hu hth => ?_) ?_
        · have := ho u hu
          unfold uOk at this ⊢
          rw [N45, N55, N1x 46 (by decide) (by decide) (by decide) (by decide), N1x 57 (by decide) (by decide) (by decide) (by decide)]
          exact this
        · rw [Nf] at hff
          exact (Nth u).mpr (hf u f hu hff)
        · have hth' := (Nth u).mp hth
          refine ⟨hM1.2 u hu hth', ?_⟩
          unfold swp
          by_cases q1 : u = b
          · rw [if_pos q1]; exact ht a ha hta
          · by_cases q2 : u = a
            · rw [if_neg q1, if_pos q2]; exact ht b hb htb
            · rw [if_neg q1, if_neg q2]; exact ht u hu hth'
        · rw [NthB, Nf]; exact hv'
      have e' : lX10_smooth_60 n (q' + 1) (nI T) did (nI (tn I c)) s (nI (ct_sum (thB I) vv c)) (nI k) M J = fX10_smooth_60 n (lX10_smooth_60 n q') (nI T) did (nI (tn I c)) s (nI (ct_sum (thB I) vv c)) (nI k) M J := rfl
      rw [e', sm_step n (show ¬ nI T ≤ nI k from nI_ge (by omega) (by omega)) hN1 (show tn I c ≤ 32 by omega) m1' m2' t1 t2 sw co sb, nI_1, hvs]
      have lim : ∀ {τ₁ : Nat → Nat} {D : MI} {u : Nat → Nat}, clP c w (w * h) (thB I) (feeds I) τ₁ D → (∀ i, i < c → thB I i = true → isCo (wt c (feeds I) τ₁ i) w (u i)) → ct_sum (thB I) u c ≤ 72 * c := by
        intro τ₁ D u hpD hu
        refine sum_le c (fun i hi hPi => isCo_le (fun t ht => ?_) (hu i hi hPi))
        rcases ht with z | ⟨y, y1, y2, y3⟩
        · have := (hpD.2.2.2.1 i hi hPi).2; omega
        · have := (hpD.2.2.2.1 y y1 (hF y i y1 y2)).2; omega
      have b1 := lim hclC hv
      have b2' := lim (clP_swp ha hb hpa hpb hclC) hv'
      by_cases q : ct_sum (thB I) v' c ≤ ct_sum (thB I) v c
      · rw [if_pos (nI_le q (by omega)), if_pos q]
      · rw [if_neg (nI_ge (by omega) (by omega)), if_neg q]
    by_cases hle : ct_sum (thB I) v' c ≤ ct_sum (thB I) v c
    · rw [if_pos hle, if_pos hle, if_neg (by decide)]
      obtain ⟨r, τ', C', p1, p2, p3, p4, p5⟩ := ih (k + 1) (sdN (sdN s)) (did + 1) (swp τ a b) _ (by omega) (cMem_swp ha hb hta htb hC) (fun u hu hth => by
        unfold swp
        by_cases q1 : u = b
        · rw [if_pos q1]; exact ht a ha hta
        · by_cases q2 : u = a
          · rw [if_neg q1, if_pos q2]; exact ht b hb htb
          · rw [if_neg q1, if_neg q2]; exact ht u hu hth) (fun t => by rw [tCnt_swp ha hb hpa hpb]; exact hcn t) q (by omega)
      refine ⟨r, τ', C', p1, p2, p3, p4, fun M0 M vv hM0 hM hvv q' hq' => ?_⟩
      obtain ⟨q', rfl⟩ : ∃ z, q' = z + 1 := ⟨q' - 1, by omega⟩
      rw [rstep M0 M vv hM0 hM hvv q', if_pos hle]
      exact p5 M0 _ v' hM0 (rMem_swp ha hb hta htb hM) hv' q' (by omega)
    · rw [if_neg hle, if_neg hle, if_pos rfl]
      obtain ⟨r, τ', C', p1, p2, p3, p4, p5⟩ := ih (k + 1) (sdN (sdN s)) did τ C (by omega) hC ht hcn q (by omega)
      refine ⟨r, τ', C', p1, p2, p3, p4, fun M0 M vv hM0 hM hvv q' hq' => ?_⟩
      obtain ⟨q', rfl⟩ : ∃ z, q' = z + 1 := ⟨q' - 1, by omega⟩
      rw [rstep M0 M vv hM0 hM hvv q', if_neg hle]
      exact p5 M0 M vv hM0 hM hvv q' (by omega)
