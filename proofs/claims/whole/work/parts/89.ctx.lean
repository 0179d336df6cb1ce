/-! what stands where things are set -/
theorem sctx {c ni nk no : Nat} {I : MI} {J : MJ} (pn : PN c ni nk no I) (pf : Pf I) (pp : PP c I) (pe : PE c I J) (h12 : I 44 12 = 1) : ∃ τ : Nat → Nat, (∀ u, u < c → thg I u → I 61 u = nI (τ u) ∧ I 24 u = nI (τ u) ∧ τ u < 36 ∧ nI (τ u) < I 16 1) ∧ (∀ u, u < c → uOk I u) ∧ (∀ u f, u < c → feeds I u f → thg I u) ∧ (∀ u f, u < c → f < 32 → feeds I u f → f < c ∧ thg I f) := by
  obtain ⟨⟨hc, hni, hnk, hno⟩, ⟨e5, e6, e1, e2, e3, e4, e7, e8⟩, pcell, pouts, pg, pfi, p49, p49'⟩ := id pn
  have h11 := pf.2.2.1 h12
  obtain ⟨no', K, D, W, t1, t2, k1, hW, t3, t4, t5, t6⟩ := pe.2.1 h11
  obtain rfl : no' = no := (nI_eq (by omega) (by omega)).mp (t2.symm.trans e7)
  have hwf := kOk_wf hc k1
  have hK : ∀ g, g < c → I 2 g = 2 → (K g).2 0 < 2 ^ g := fun g hg hs => ((hwf g hg).1.2.2 0 ((hwf g hg).2.2 hs)).1
  obtain ⟨s1, s2, s3, s4, s5, s6⟩ := pe.2.2.1 h12
  have hex : ∀ u, ∃ t, u < c → thg I u → t < 36 ∧ I 61 u = nI t ∧ nI t < I 16 1 := by
    intro u
    by_cases h : u < c ∧ thg I u
    · obtain ⟨t, q⟩ := s3 u h.1 h.2
      exact ⟨t, fun _ _ => q⟩
    · exact ⟨0, fun h1 h2 => absurd ⟨h1, h2⟩ h⟩
  have hgate : ∀ f, f < c → I 45 f = 2 → W f = true → thg I f := by
    intro f hf _ hw
    right
    rw [t4 f hf, if_pos hw]
    decide
  have hth : ∀ u f, u < c → feeds I u f → thg I u := by
    rintro u f hu (⟨q, -⟩ | ⟨-, q, -⟩)
    · left; rw [q]; decide
    · exact Or.inr q
  have htabu : ∀ u, u < c → ¬ I 55 u = 0 → W u = true := by
    intro u hu q
    rw [t4 u hu] at q
    by_cases z : W u = true
    · exact z
    · rw [if_neg z] at q; exact absurd rfl q
  refine ⟨fun u => (hex u).choose, fun u hu ht => ?_, fun u hu => ?_, hth, ?_⟩
  · obtain ⟨q1, q2, q3⟩ := (hex u).choose_spec hu ht
    exact ⟨q2, by rw [(pp h12 u hu).1 ht |>.1]; exact q2, q1, q3⟩
  · obtain ⟨c1, c2, c3, g | g | g⟩ := pcell u hu
    · left; rw [c1]; exact g.1
    · right; left
      obtain ⟨s, hs, es⟩ := g.2.1
      exact ⟨by rw [c1]; exact g.1, s, by omega, by rw [c2]; exact es⟩
    · right; right
      refine ⟨by rw [c1]; exact g.1, ?_⟩
      by_cases h55 : I 55 u = 0
      · exact Or.inl h55
      · right
        have hw := htabu u hu h55
        have h4 := ((hwf u hu).1.2.2 0 ((hwf u hu).2.2 g.1)).2
        exact ⟨h55, _, h4, (t6 u hu hw).2.1⟩
  · rintro u f hu hf (⟨q1, q2⟩ | ⟨q1, q2, j, q3, q4, q5⟩)
    · obtain ⟨c1, c2, c3, g | g | g⟩ := pcell u hu
      · exact absurd ((c1.symm.trans q1).symm.trans g.1) (by decide)
      · obtain ⟨s, hs, es⟩ := g.2.1
        rw [c2, es] at q2
        obtain rfl : s = f := (nI_eq (by omega) (by omega)).mp q2
        refine ⟨hs, ?_⟩
        by_cases h2 : I 45 s = 2
        · refine hgate s hs h2 ((hW s).mpr (tw_mono (Nat.zero_le _) (show tw c no' K (I 2) (I 3) (I 6) 0 s from ⟨hs, ?_, Or.inr ⟨u, hu, g.1, es⟩⟩)))
          rw [← (pcell s hs).1]; exact h2
        · exact Or.inl h2
      · exact absurd ((c1.symm.trans q1).symm.trans g.1) (by decide)
    · have hw := htabu u hu q2
      have hs2 : I 2 u = 2 := by rw [← (pcell u hu).1]; exact q1
      obtain ⟨-, o1, o2, -⟩ := t6 u hu hw
      have hpu : ct_pop u ((K u).2 0) = ct_pop 32 ((K u).2 0) := (ct_pop_ext (hK u hu hs2) 32 (by omega)).symm
      have hpl := ct_pop_le ((K u).2 0) 32
      rw [o1] at q4
      have hj := (nI_ltI (by omega) (by omega)).mp q4
      rw [← hpu] at hj
      obtain ⟨i, i1, i2, i3⟩ := ct_pop_at ((K u).2 0) u j hj
      have z := (o2 i i1 i2).2
      rw [i3, q5] at z
      obtain rfl : f = i := (nI_eq (by omega) (by omega)).mp z
      refine ⟨by omega, ?_⟩
      by_cases h2 : I 45 f = 2
      · exact hgate f (by omega) h2 (W_cone hK hW hu hw i2 (by rw [← (pcell f (by omega)).1]; exact h2))
      · exact Or.inl h2
/-- the class's side of places -/
def clP (c w N : Nat) (P : Nat → Bool) (F : Nat → Nat → Prop) (τ : Nat → Nat) (I : MI) : Prop := I 22 1 = nI (ct_cnt P c) ∧ (∀ i, i < c → P i = true → I 23 (ct_cnt P i) = nI i) ∧ (∀ i, i < 32 → ∀ u, u < 32 → (bt (I 27 i) u = true ↔ u < c ∧ F u i)) ∧ (∀ u, u < c → P u = true → I 24 u = nI (τ u) ∧ τ u < N) ∧ colOk w N I
theorem ct_cnt_mono (P : Nat → Bool) {a : Nat} : ∀ k, a ≤ k → ct_cnt P a ≤ ct_cnt P k := by
  intro k
  induction k with
  | zero => intro h; rw [show a = 0 by omega]; exact Nat.le_refl _
  | succ k ih =>
    intro h
    by_cases e : a = k + 1
    · rw [e]; exact Nat.le_refl _
    · have := ih (by omega)
      show _ ≤ (if P k = true then ct_cnt P k + 1 else ct_cnt P k)
      split <;> omega
theorem costC_all (n : Nat) (hn : 2400 < n) {c w N : Nat} (hc : c ≤ 32) (hN : N ≤ 36) {P : Nat → Bool} {F : Nat → Nat → Prop} {τ : Nat → Nat} {I : MI} {J : MJ} (hp : clP c w N P F τ I) (hF : ∀ u i, u < c → F u i → P u = true) {v : Nat → Nat} (hv : ∀ i, i < c → P i = true → isCo (wt c F τ i) w (v i)) : fX5_spanOfAll n I J = some (nI (ct_sum P v c), I, J) := by
  obtain ⟨h22, h23, h27, h24, hcol⟩ := hp
  exact sumC n (T := ct_cnt P) hc rfl (fun k => rfl) (fun k hk => ct_cnt_mono P c hk) (ct_cnt_le P) h22 h23 (fun i hi hP => by
    obtain ⟨v', v1, v2⟩ := spanC_ok n hn hc (show i < 32 by omega) hN (F := F) (τ := τ) (J := J) hcol (h27 i (by omega)) (fun u hu hf => h24 u hu (hF u i hu hf)) (h24 i hi hP)
    rw [v1, isCo_u (fun t => Iff.rfl) v2 (hv i hi hP)]) c 0 n (by omega) (by omega)
theorem cost_ex (n : Nat) (hn : 2400 < n) {c w N : Nat} (hc : c ≤ 32) (hN : N ≤ 36) {P : Nat → Bool} {F : Nat → Nat → Prop} {τ : Nat → Nat} {I : MI} (J : MJ) (hp : clP c w N P F τ I) (hF : ∀ u i, u < c → F u i → P u = true) : ∃ v : Nat → Nat, ∀ i, i < c → P i = true → isCo (wt c F τ i) w (v i) := by
  obtain ⟨h22, h23, h27, h24, hcol⟩ := hp
  have hex : ∀ i, ∃ v, i < c → P i = true → isCo (wt c F τ i) w v := by
    intro i
    by_cases h : i < c ∧ P i = true
    · obtain ⟨v', v1, v2⟩ := spanC_ok n hn hc (show i < 32 by omega) hN (F := F) (τ := τ) (J := J) hcol (h27 i (by omega)) (fun u hu hf => h24 u hu (hF u i hu hf)) (h24 i h.1 h.2)
      exact ⟨v', fun _ _ => v2⟩
    · exact ⟨0, fun h1 h2 => absurd ⟨h1, h2⟩ h⟩
  exact ⟨fun i => (hex i).choose, fun i => (hex i).choose_spec⟩
theorem costR_all (n : Nat) (hn : 2400 < n) {c w h : Nat} (hc : c ≤ 32) (hw : 1 ≤ w) (hw6 : w ≤ 6) (hh : 1 ≤ h) (hh6 : h ≤ 6) {τ : Nat → Nat} {I : MI} {J : MJ} (h6 : I 44 6 = nI c) (h24 : I 44 24 = nI w) (h25 : I 44 25 = nI h) (ho : ∀ u, u < c → uOk I u) (hf : ∀ u f, u < c → feeds I u f → thg I u) (ht : ∀ u, u < c → thg I u → I 61 u = nI (τ u) ∧ τ u < w * h) {v : Nat → Nat} (hv : ∀ i, i < c → thB I i = true → isCo (wt c (feeds I) τ i) w (v i)) : fX10_costs n I J = some (nI (ct_sum (thB I) v c), I, J) := by
  exact sumR n hc h6 (fun i hi hP => by
    obtain ⟨v', v1, v2⟩ := costR_ok n hn hc (show i < 32 by omega) hw hw6 hh hh6 (τ := τ) (J := J) h6 h24 h25 ho (fun u hu hff => hf u i hu hff) ht (ht i hi (of_decide_eq_true hP))
    rw [v1, isCo_u (fun t => Iff.rfl) v2 (hv i hi hP)]) n 0 (Nat.zero_le _) (by omega)
/-- both sides of places in a state that is held -/
theorem sctx2 {m : Nat} {I : MI} {J : MJ} (hI : Inv m I J) (h12 : I 44 12 = 1) : ∃ c w h τ, c ≤ 32 ∧ 1 ≤ w ∧ w ≤ 6 ∧ 1 ≤ h ∧ h ≤ 6 ∧ I 1 5 = nI c ∧ I 44 6 = nI c ∧ I 44 24 = nI w ∧ I 44 25 = nI h ∧ clP c w (w * h) (thB I) (feeds I) τ I ∧ (∀ u, u < c → uOk I u) ∧ (∀ u f, u < c → feeds I u f → thg I u) ∧ (∀ u f, u < c → f < 32 → feeds I u f → f < c ∧ thg I f) ∧ (∀ u, u < c → thg I u → I 61 u = nI (τ u) ∧ τ u < w * h) := by
  obtain ⟨pr, pq, pf, c, ni, nk, no, pn, ⟨pu, pg, pw, pp, pfr, pe⟩⟩ := id hI
  obtain ⟨w, h, r, k, ⟨w1, w2, g1, g2, o1, o2, c1, c2⟩, ⟨e24, e25, e26, e27⟩, hgr, -, -, -⟩ := pg
  have hwh := wh_le w2 g2
  obtain ⟨τ, t1, t2, t3, t4⟩ := sctx pn pf pp pe h12
  obtain ⟨s1, s2, s3, s4, s5, s6⟩ := pe.2.2.1 h12
  have ht : ∀ u, u < c → thg I u → τ u < w * h := by
    intro u hu hth
    obtain ⟨q1, q2, q3, q4⟩ := t1 u hu hth
    rw [hgr.2.1] at q4
    exact (nI_ltI (by omega) (by omega)).mp q4
  refine ⟨c, w, h, τ, pn.1.1, w1, w2, g1, g2, pn.2.1.1, pn.2.1.2.1, e24, e25, ⟨s1, fun i hi hP => s2 i hi (of_decide_eq_true hP), s6, fun u hu hP => ⟨(t1 u hu (of_decide_eq_true hP)).2.1, ht u hu (of_decide_eq_true hP)⟩, hgr.2.2.2.1⟩, t2, t3, t4, fun u hu hth => ⟨(t1 u hu hth).1, ht u hu hth⟩⟩
theorem B_cost_ok (n : Nat) (hn : 2400 < n) : B_cost Inv n := by
  intro m I J hI
  obtain ⟨pr, pq, pf, -⟩ := id hI
  have f22 := pf.1.2.1
  unfold fX9_cost
  by_cases h22 : I 22 0 = 0
  · rw [if_pos h22, ref_2]
    simp only [Option.bind_some]
    refine rr (j := 0) (f := fX10_cost n) (by decide) hI ?_
    unfold fX10_cost
    rw [up43 (show (44 : Nat) ≠ 43 by decide), if_pos (by rw [← f22]; exact h22), no_2]
    rfl
  have h12 : I 44 12 = 1 := pf.2.1.2.1.resolve_left (by rw [← f22]; exact h22)
  obtain ⟨c, w, h, τ, hc, w1, w2, g1, g2, e5, e6, e24, e25, hcl, ho, hf, -, ht⟩ := sctx2 hI h12
  have hwh := wh_le w2 g2
  have hF : ∀ u i, u < c → feeds I u i → thB I u = true := fun u i hu hff => decide_eq_true (hf u i hu hff)
  obtain ⟨v, hv⟩ := cost_ex n hn hc hwh J hcl hF
  rw [if_neg h22, costC_all n hn hc hwh hcl hF hv]
  simp only [Option.bind_some]
  refine tot_some.mpr ?_
  show tot (fX10_cost n I J) _
  unfold fX10_cost
  rw [if_neg (by rw [h12]; decide), costR_all n hn hc w1 w2 g1 g2 e6 e24 e25 ho hf ht hv]
  exact tot_some.mpr ⟨rfl, Inv_dec m I J hI⟩
