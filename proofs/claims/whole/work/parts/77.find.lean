/-! the reference finds its cuts -/
theorem kr_keep {K : Nat → Cuts} {D : Nat → Nat} {I0 I : MI} {p : Cuts} {a g : Nat} (ha : a < g) (hw : (K a).1 ≤ 40) (hk : krOk K D I0 a) (hI : rowI I0 g p I) : krOk K D I a := by
  obtain ⟨k1, k2, k3⟩ := hk
  refine ⟨?_, ?_, fun i hi => ?_⟩
  · rw [hI.2.2 53 a (Or.inl (by decide)) (Or.inr (by omega))]; exact k1
  · rw [hI.2.2 54 a (Or.inl (by decide)) (Or.inl (by decide))]; exact k2
  · rw [hI.2.2 52 _ (by omega) (Or.inl (by decide))]; exact k3 i hi
theorem rowI_tr {I0 I I' : MI} {g : Nat} {p p' : Cuts} (h : rowI I0 g p I) (h' : rowI I g p' I') : rowI I0 g p' I' := ⟨h'.1, h'.2.1, fun a b h1 h2 => by rw [h'.2.2 a b h1 h2]; exact h.2.2 a b h1 h2⟩
theorem fc_in (n : Nat) (hn : 2400 < n) {K : Nat → Cuts} {D : Nat → Nat} {I0 : MI} {J : MJ} {g a b i : Nat} (hg : g < 32) (ha : a < g) (hb : b < g) (h54 : ∀ i, i < g → I0 54 i = nI (D i) ∧ D i ≤ 31) (hka : krOk K D I0 a) (hwa : ct_ok (ct_rk a D) a (K a)) (hkb : krOk K D I0 b) (hwb : ct_ok (ct_rk b D) b (K b)) (k15 : Int32 → MI → MJ → Option M2) (k71 : Int32 → Int32 → Int32 → Int32 → MI → MJ → Option M2) (hi : i ≤ (K a).1) (p0 : Cuts) (hp0 : ct_ok (ct_rk g D) g p0) : ∀ q j I, j ≤ (K b).1 + 1 → (K b).1 + 1 < q + j → rowI I0 g (ct_inn (ct_rk g D) (ct_ch (K a) a i) (ct_ch (K b) b) j p0) I → ∃ I', lX10_findCuts_85 n k15 k71 q (nI g) (nI a) (nI b) (nI i) (nI j) I J = k71 (nI g) (nI a) (nI b) (nI (i + 1)) I' J ∧ rowI I0 g (ct_inn (ct_rk g D) (ct_ch (K a) a i) (ct_ch (K b) b) ((K b).1 + 1) p0) I' := by
  have hw1 := hwa.1
  have hw2 := hwb.1
  have hu := ct_ch_lt hwa ha i
  intro q
  induction q with
  | zero => intro j I h1 h2; omega
  | succ q ih =>
    intro j I h1 h2 hI
    have hok := ct_inn_ok (D := D) (show g ≤ 32 by omega) hu (ct_ch_lt hwb hb) j p0 hp0
    have hkb' := kr_keep hb hw2 hkb hI
    have hka' := kr_keep ha hw1 hka hI
    have e : lX10_findCuts_85 n k15 k71 (q + 1) (nI g) (nI a) (nI b) (nI i) (nI j) I J = fX10_findCuts_85 n k15 k71 (lX10_findCuts_85 n k15 k71 q) (nI g) (nI a) (nI b) (nI i) (nI j) I J := rfl
    rw [e]
    unfold fX10_findCuts_85 fX10_findCuts_129
    rw [if_pos (inb_nI (by omega) (by decide)), clampI (by omega), hkb'.1, nI_1 i, nI_1 j]
    by_cases hj : j = (K b).1 + 1
    · subst hj
      rw [if_pos (nI_lt (by omega) (by omega))]
      exact ⟨I, rfl, hI⟩
    · rw [if_neg (nI_nlt (by omega) (by omega)), partOf_eq n (by omega) hka' hw1 hi]
      simp only [Option.bind_some]
      rw [partOf_eq n (by omega) hkb' hw2 (by omega)]
      simp only [Option.bind_some, lt]
      rw [nI_or, many_eq n hn]
      simp only [Option.bind_some]
      have hv := ct_ch_lt hwb hb j
      have huv : ct_ch (K a) a i ||| ct_ch (K b) b j < 2 ^ g := Nat.or_lt_two_pow hu hv
      have hpl := ct_pop_le (ct_ch (K a) a i ||| ct_ch (K b) b j) 32
      have es : ct_inn (ct_rk g D) (ct_ch (K a) a i) (ct_ch (K b) b) (j + 1) p0 = ct_stp (ct_rk g D) (ct_ch (K a) a i ||| ct_ch (K b) b j) (ct_inn (ct_rk g D) (ct_ch (K a) a i) (ct_ch (K b) b) j p0) := rfl
      by_cases h4 : ct_pop 32 (ct_ch (K a) a i ||| ct_ch (K b) b j) ≤ 4
      · rw [if_neg (show ¬ (4 : Int32) < nI _ from nI_nlt (a := 4) h4 (by decide))]
        obtain ⟨I1, j1, j2⟩ := enters_ok n hn hg hok huv I J (fun z hz => by rw [hI.2.2 54 z (Or.inl (by decide)) (Or.inl (by decide))]; exact h54 z hz) hI.1 hI.2.1
        rw [j1]
        simp only [Option.bind_some]
        refine ih (j + 1) I1 (by omega) (by omega) ?_
        rw [es]
        unfold ct_stp
        rw [if_pos h4]
        exact rowI_tr hI j2
      · rw [if_pos (show (4 : Int32) < nI _ from nI_lt (a := 4) (by omega) (by omega))]
        refine ih (j + 1) I (by omega) (by omega) ?_
        rw [es]
        unfold ct_stp
        rw [if_neg h4]
        exact hI
theorem fc_out (n : Nat) (hn : 2400 < n) {K : Nat → Cuts} {D : Nat → Nat} {I0 : MI} {J : MJ} {g a b : Nat} (hg : g < 32) (ha : a < g) (hb : b < g) (h54 : ∀ i, i < g → I0 54 i = nI (D i) ∧ D i ≤ 31) (hka : krOk K D I0 a) (hwa : ct_ok (ct_rk a D) a (K a)) (hkb : krOk K D I0 b) (hwb : ct_ok (ct_rk b D) b (K b)) (k15 : Int32 → MI → MJ → Option M2) : ∀ q i I, i ≤ (K a).1 + 1 → (K a).1 + 1 < q + i → rowI I0 g (ct_out (ct_rk g D) (ct_ch (K a) a) (K b).1 (ct_ch (K b) b) i) I → ∃ I', lX10_findCuts_71 n k15 q (nI g) (nI a) (nI b) (nI i) I J = k15 (nI (g + 1)) (upM I' 54 g (nI (1 + ct_md D g ((ct_gl (ct_rk g D) (K a) a (K b) b).2 0)))) J ∧ rowI I0 g (ct_gl (ct_rk g D) (K a) a (K b) b) I' := by
  have hw1 := hwa.1
  have hw2 := hwb.1
  intro q
  induction q with
  | zero => intro i I h1 h2; omega
  | succ q ih =>
    intro i I h1 h2 hI
    have hok := ct_out_ok (D := D) (show g ≤ 32 by omega) (ct_ch_lt hwa ha) (m := (K b).1) (ct_ch_lt hwb hb) i
    have hka' := kr_keep ha hw1 hka hI
    have e : lX10_findCuts_71 n k15 (q + 1) (nI g) (nI a) (nI b) (nI i) I J = fX10_findCuts_71 n k15 (lX10_findCuts_71 n k15 q) (nI g) (nI a) (nI b) (nI i) I J := rfl
    rw [e]
    unfold fX10_findCuts_71 fX10_findCuts_160
    rw [if_pos (inb_nI (by omega) (by decide)), clampI (by omega), hka'.1]
    by_cases hi : i = (K a).1 + 1
    · subst hi
      have h1g : 1 ≤ (ct_gl (ct_rk g D) (K a) a (K b) b).1 := ct_gl_1 (by omega) (by omega)
      have hI' : rowI I0 g (ct_gl (ct_rk g D) (K a) a (K b) b) I := hI
      have hokg : ct_ok (ct_rk g D) g (ct_gl (ct_rk g D) (K a) a (K b) b) := hok
      have e40 : (40 : Int32) * nI g = nI (40 * g) := pk_mul 40 g
      have hlt0 := (hokg.2.2 0 (by omega)).1
      have e52 : I 52 (40 * g) = nI ((ct_gl (ct_rk g D) (K a) a (K b) b).2 0) := hI'.2.1 0 (by omega)
      rw [if_pos (nI_lt (by omega) (by omega)), e40, if_pos (inb_nI (by omega) (by decide)), clampI (by omega), e52, depthOf_eq n hn (D := D) I J (fun z hz hb => by
        by_cases hzg : z < g
        · rw [hI.2.2 54 z (Or.inl (by decide)) (Or.inl (by decide))]; exact h54 z hzg
        · rw [ct_tb hlt0 (by omega)] at hb
          cases hb)]
      simp only [Option.bind_some, lt]
      rw [if_pos (inb_nI (by omega) (by decide)), clampI (by omega), ct_md_ext hlt0 32 (by omega), nI_1]
      exact ⟨I, rfl, hI'⟩
    · rw [if_neg (nI_nlt (by omega) (by omega))]
      obtain ⟨I1, j1, j2⟩ := fc_in n hn (J := J) hg ha hb h54 hka hwa hkb hwb k15 (lX10_findCuts_71 n k15 q) (i := i) (by omega) _ hok n 0 I (by omega) (by omega) hI
      have j1' : lX10_findCuts_85 n k15 (lX10_findCuts_71 n k15 q) n (nI g) (nI a) (nI b) (nI i) 0 I J = _ := j1
      rw [j1']
      exact ih (i + 1) I1 (by omega) (by omega) j2
theorem fc_all (n : Nat) (hn : 2400 < n) {K : Nat → Cuts} {D : Nat → Nat} {I0 : MI} {J : MJ} {c : Nat} (hc : c ≤ 32) (h6 : I0 44 6 = nI c) (hcell : ∀ g, g < c → I0 45 g = I0 2 g ∧ I0 46 g = I0 3 g ∧ I0 47 g = I0 4 g) (k1 : ∀ g, g < c → kOk K D I0 g) : ∀ q g I, g ≤ c → c < q + g → (∀ a, a ≠ 52 → a ≠ 53 → a ≠ 54 → I a = I0 a) → (∀ i, i < g → krOk K D I i) → ∃ I', lX10_findCuts_15 n q (nI g) I J = some (I', J) ∧ (∀ a, a ≠ 52 → a ≠ 53 → a ≠ 54 → I' a = I0 a) ∧ ∀ i, i < c → krOk K D I' i := by
  have hwf := kOk_wf hc k1
  intro q
  induction q with
  | zero => intro g I h1 h2; omega
  | succ q ih =>
    intro g I h1 h2 hfr hkr
    have e : lX10_findCuts_15 n (q + 1) (nI g) I J = fX10_findCuts_15 n (lX10_findCuts_15 n q) (nI g) I J := rfl
    rw [e]
    unfold fX10_findCuts_15 fX10_findCuts_160
    rw [hfr 44 (by decide) (by decide) (by decide), h6]
    by_cases hgc : g = c
    · subst hgc
      rw [if_pos (Int32.le_refl _)]
      exact ⟨I, rfl, hfr, hkr⟩
    have hg : g < c := by omega
    rw [if_neg (nI_ge hg (by omega)), if_pos (inb_nI (by omega) (by decide)), clampI (by omega)]
    simp only [lt]
    rw [if_pos (inb_nI (by omega) (by decide)), if_pos (inb_nI (by omega) (by decide))]
    generalize hI1 : upM (upM I 53 g 0) 54 g 0 = I1
    have hfr1 : ∀ a, a ≠ 52 → a ≠ 53 → a ≠ 54 → I1 a = I0 a := by
      intro a q1 q2 q3
      rw [← hI1, upM_ne a q3, upM_ne a q2]
      exact hfr a q1 q2 q3
    have hkr1 : ∀ i, i < g → krOk K D I1 i := by
      intro i hi
      obtain ⟨z1, z2, z3⟩ := hkr i hi
      refine ⟨?_, ?_, ?_⟩
      · rw [← hI1, upM_ne 53 (by decide), upM_get, if_pos rfl, if_neg (by omega)]; exact z1
      · rw [← hI1, upM_get, if_pos rfl, if_neg (by omega), upM_ne 54 (by decide)]; exact z2
      · rw [← hI1, upM_ne 52 (by decide), upM_ne 52 (by decide)]; exact z3
    obtain ⟨g45, g46, g47⟩ := hcell g hg
    rw [hfr1 45 (by decide) (by decide) (by decide), hfr1 46 (by decide) (by decide) (by decide), hfr1 47 (by decide) (by decide) (by decide), g45, g46, g47, nI_1]
    rcases k1 g hg with ⟨z1, z2, z3⟩ | ⟨z1, x, y, hx, hy, z3, z4, z5, z6⟩
    · rw [if_neg z1]
      refine ih (g + 1) I1 (by omega) (by omega) hfr1 (fun i hi => ?_)
      by_cases hig : i < g
      · exact hkr1 i hig
      · obtain rfl : i = g := by omega
        refine ⟨?_, ?_, fun j hj => by omega⟩
        · rw [← hI1, upM_ne 53 (by decide), upM_get, if_pos rfl, if_pos rfl, z2]; rfl
        · rw [← hI1, upM_get, if_pos rfl, if_pos rfl, z3]; rfl
    · have ex : nI x / 2 = nI (x / 2) := pk_div (d := 2) (by omega) (by decide) (by decide)
      have ey : nI y / 2 = nI (y / 2) := pk_div (d := 2) (by omega) (by decide) (by decide)
      rw [if_pos z1, if_pos (inb_nI (by omega) (by decide)), if_pos (inb_nI (by omega) (by decide)), z3, z4, ex, ey]
      have wx := hwf (x / 2) (by omega)
      have wy := hwf (y / 2) (by omega)
      obtain ⟨I2, j1, j2⟩ := fc_out n hn (K := K) (D := D) (I0 := I1) (J := J) (g := g) (a := x / 2) (b := y / 2) (by omega) (by omega) (by omega) (fun i hi => ⟨(hkr1 i hi).2.1, by have := (hwf i (by omega)).2.1; omega⟩) (hkr1 _ (by omega)) wx.1 (hkr1 _ (by omega)) wy.1 (lX10_findCuts_15 n q) n 0 I1 (by omega) (by have := wx.1.1; omega) ⟨by rw [← hI1, upM_ne 53 (by decide), upM_get, if_pos rfl, if_pos rfl]; rfl, fun i hi => absurd hi (Nat.not_lt_zero _), fun _ _ _ _ => rfl⟩
      have j1' : lX10_findCuts_71 n (lX10_findCuts_15 n q) n (nI g) (nI (x / 2)) (nI (y / 2)) 0 I1 J = _ := j1
      rw [j1', ← z5, ← z6]
      rw [← z5] at j2
      refine ih (g + 1) _ (by omega) (by omega) (fun a q1 q2 q3 => ?_) (fun i hi => ?_)
      · rw [upM_ne a q3, ← hfr1 a q1 q2 q3]
        funext b
        exact j2.2.2 a b (Or.inl q1) (Or.inl q2)
      · by_cases hig : i < g
        · have := kr_keep hig (hwf i (by omega)).1.1 (hkr1 i hig) j2
          refine ⟨?_, ?_, ?_⟩
          · rw [upM_ne 53 (by decide)]; exact this.1
          · rw [upM_get, if_pos rfl, if_neg (by omega)]; exact this.2.1
          · rw [upM_ne 52 (by decide)]; exact this.2.2
        · obtain rfl : i = g := by omega
          refine ⟨?_, ?_, ?_⟩
          · rw [upM_ne 53 (by decide)]; exact j2.1
          · rw [upM_get, if_pos rfl, if_pos rfl]
          · rw [upM_ne 52 (by decide)]; exact j2.2.1
/-- the reference's cuts are found, whatever was before -/
theorem findCuts_ok (n : Nat) (hn : 2400 < n) {c : Nat} {I : MI} {J : MJ} (hc : c ≤ 32) (h6 : I 44 6 = nI c) (hcell : ∀ g, g < c → I 45 g = I 2 g ∧ I 46 g = I 3 g ∧ I 47 g = I 4 g) (hp : PK c I J) : ∃ I', fX10_findCuts n I J = some (I', J) ∧ (∀ a, a ≠ 52 → a ≠ 53 → a ≠ 54 → a ≠ 44 → I' a = I a) ∧ (∀ j, j ≠ 15 → I' 44 j = I 44 j) ∧ ∃ K D, (∀ g, g < c → kOk K D I' g) ∧ (∀ g, g < c → kcOk K D I' J g) ∧ (∀ g, g < c → krOk K D I' g) ∧ PK c I' J := by
  obtain ⟨h01, K, D, k1, k2, k3⟩ := id hp
  unfold fX10_findCuts
  rcases h01 with h0 | h1
  · rw [if_pos h0]
    simp only [lt]
    obtain ⟨I', j1, j2, j3⟩ := fc_all n hn (K := K) (D := D) (I0 := upM I 44 15 1) (J := J) hc (by rw [upM_get, if_pos rfl, if_neg (by decide)]; exact h6) (fun g hg => by rw [upM_ne 45 (by decide), upM_ne 46 (by decide), upM_ne 47 (by decide), upM_ne 2 (by decide), upM_ne 3 (by decide), upM_ne 4 (by decide)]; exact hcell g hg) (fun g hg => by
      unfold kOk
      rw [upM_ne 2 (by decide), upM_ne 3 (by decide), upM_ne 4 (by decide)]
      exact k1 g hg) n 0 (upM I 44 15 1) (by omega) (by omega) (fun _ _ _ _ => rfl) (fun i hi => absurd hi (Nat.not_lt_zero _))
    have fr : ∀ a, a ≠ 52 → a ≠ 53 → a ≠ 54 → a ≠ 44 → I' a = I a := fun a q1 q2 q3 q4 => by rw [j2 a q1 q2 q3, upM_ne a q4]
    have e44 : ∀ j, I' 44 j = if j = 15 then 1 else I 44 j := fun j => by rw [j2 44 (by decide) (by decide) (by decide), upM_get, if_pos rfl]
    have k1' : ∀ g, g < c → kOk K D I' g := fun g hg => by
      unfold kOk
      rw [fr 2 (by decide) (by decide) (by decide) (by decide), fr 3 (by decide) (by decide) (by decide) (by decide), fr 4 (by decide) (by decide) (by decide) (by decide)]
      exact k1 g hg
    have k2' : ∀ g, g < c → kcOk K D I' J g := fun g hg => by
      unfold kcOk
      rw [fr 8 (by decide) (by decide) (by decide) (by decide), fr 9 (by decide) (by decide) (by decide) (by decide)]
      exact k2 g hg
    exact ⟨I', j1, fr, fun j hj => by rw [e44, if_neg hj], K, D, k1', k2', j3, Or.inr (by rw [e44, if_pos rfl]), K, D, k1', k2', fun _ => j3⟩
  · rw [if_neg (by rw [h1]; decide)]
    exact ⟨I, rfl, fun _ _ _ _ _ => rfl, fun _ _ => rfl, K, D, k1, k2, k3 h1, hp⟩
/-- what touches the reference's cuts alone -/
theorem Inv_cut {m : Nat} {I I' : MI} {J : MJ} (h : ∀ a, a ≠ 52 → a ≠ 53 → a ≠ 54 → a ≠ 44 → I' a = I a) (h44 : ∀ j, j ≠ 15 → I' 44 j = I 44 j) (hk : ∀ c, c ≤ 32 → PK c I J → I 44 6 = nI c → PK c I' J) (hI : Inv m I J) : Inv m I' J := by
  obtain ⟨pr, pq, pf, c, ni, nk, no, pn, ⟨pu, pg, pw, pp, pfr, pe⟩⟩ := hI
  have e : ∀ (l : List Nat), (∀ a ∈ l, a ≠ 52 ∧ a ≠ 53 ∧ a ≠ 54 ∧ a ≠ 44) → ∀ a ∈ l, I' a = I a := fun l hl a ha => h a (hl a ha).1 (hl a ha).2.1 (hl a ha).2.2.1 (hl a ha).2.2.2
  have e4 : ∀ (l : List Nat), (∀ j ∈ l, j ≠ 15) → ∀ j ∈ l, I' 44 j = I 44 j := fun l hl j hj => h44 j (hl j hj)
  refine ⟨PR_fr (e _ (by decide)) pr, PQ_fr (e _ (by decide)) (h44 48 (by decide)) pq, Pf_fr (by rw [h 11 (by decide) (by decide) (by decide) (by decide)]) (by rw [h 22 (by decide) (by decide) (by decide) (by decide)]) (by rw [h 28 (by decide) (by decide) (by decide) (by decide)]) (by rw [h 34 (by decide) (by decide) (by decide) (by decide)]) (e4 _ (by decide)) pf, c, ni, nk, no, PN_fr (e _ (by decide)) (e4 _ (by decide)) pn, PU_fr (e _ (by decide)) (by rw [h 34 (by decide) (by decide) (by decide) (by decide)]) (e4 _ (by decide)) pu, PG_fr (e _ (by decide)) (e4 _ (by decide)) rfl pg, PW_fr (e _ (by decide)) (h44 13 (by decide)) rfl pw, PP_fr (e _ (by decide)) (h44 12 (by decide)) pp, PF_fr (e _ (by decide)) (by rw [h 16 (by decide) (by decide) (by decide) (by decide)]) (h44 14 (by decide)) pfr, PE_cut h h44 (hk c pn.1.1 pe.1 pn.2.1.2.1) pe⟩
