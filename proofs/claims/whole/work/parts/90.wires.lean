/-! wires -/
theorem ends_ex (n : Nat) (hn : 2400 < n) {c w h : Nat} (hc : c ≤ 32) (hwh : w * h ≤ 36) {τ : Nat → Nat} {I : MI} {J : MJ} (hcl : clP c w (w * h) (thB I) (feeds I) τ I) (h6 : I 44 6 = nI c) (ho : ∀ u, u < c → uOk I u) (hf : ∀ u f, u < c → feeds I u f → thg I u) (ht : ∀ u, u < c → thg I u → I 61 u = nI (τ u) ∧ τ u < w * h) : ∃ E : Nat → Int64, ∀ i, i < c → thg I i → fX5_endsOf n (nI i) I J = some (E i, I, J) ∧ fX10_endsOf n (nI i) I J = some (E i, I, J) ∧ ∀ t, t < 64 → (bl (E i) t = true ↔ (∃ u, u < c ∧ feeds I u i ∧ τ u = t) ∧ t ≠ τ i) := by
  have hex : ∀ i, ∃ E, i < c → thg I i → fX5_endsOf n (nI i) I J = some (E, I, J) ∧ fX10_endsOf n (nI i) I J = some (E, I, J) ∧ ∀ t, t < 64 → (bl E t = true ↔ (∃ u, u < c ∧ feeds I u i ∧ τ u = t) ∧ t ≠ τ i) := by
    intro i
    by_cases hh : i < c ∧ thg I i
    · obtain ⟨hi, hti⟩ := hh
      obtain ⟨h22, h23, h27, h24, hcol⟩ := hcl
      obtain ⟨v, v1, v2⟩ := endsC_ok n hn hc (show i < 32 by omega) (F := feeds I) (τ := τ) (J := J) (h27 i (by omega)) (fun u hu hff => ⟨(h24 u hu (decide_eq_true (hf u i hu hff))).1, by have := (h24 u hu (decide_eq_true (hf u i hu hff))).2; omega⟩) ⟨(h24 i hi (decide_eq_true hti)).1, by have := (h24 i hi (decide_eq_true hti)).2; omega⟩
      obtain ⟨v', v1', v2'⟩ := endsR_ok n hn hc (show i < 32 by omega) (τ := τ) (J := J) h6 ho (fun u hu hth => ⟨(ht u hu hth).1, by have := (ht u hu hth).2; omega⟩) ⟨(ht i hi hti).1, by have := (ht i hi hti).2; omega⟩
      have e : v' = v := bl_ext (fun t h => by rw [v2' t h, v2 t h])
      rw [e] at v1'
      exact ⟨v, fun _ _ => ⟨v1, v1', v2⟩⟩
    · exact ⟨0, fun h1 h2 => absurd ⟨h1, h2⟩ hh⟩
  exact ⟨fun i => (hex i).choose, fun i => (hex i).choose_spec⟩
def e01 (E : Nat → Int64) (i : Nat) : Nat := if E i = 0 then 0 else 1
theorem wcC (n : Nat) {c : Nat} {I : MI} {J : MJ} {P : Nat → Bool} {E : Nat → Int64} (hc : c ≤ 32) (h22 : I 22 1 = nI (ct_cnt P c)) (h23 : ∀ i, i < c → P i = true → I 23 (ct_cnt P i) = nI i) (hv : ∀ i, i < c → P i = true → fX5_endsOf n (nI i) I J = some (E i, I, J)) : ∀ d k q, k + d = c → d < q → lX5_wireCount_4 n q (nI (ct_sum P (e01 E) k)) (nI (ct_cnt P k)) I J = some (nI (ct_sum P (e01 E) c), I, J) := by
  have hTc := ct_cnt_le P c
  intro d
  induction d with
  | zero =>
    intro k q hk hq
    obtain ⟨q, rfl⟩ : ∃ z, q = z + 1 := ⟨q - 1, by omega⟩
    have e : ∀ a b, lX5_wireCount_4 n (q + 1) a b I J = fX5_wireCount_4 n (lX5_wireCount_4 n q) a b I J := fun _ _ => rfl
    obtain rfl : k = c := by omega
    rw [e]
    unfold fX5_wireCount_4
    rw [h22, if_pos (Int32.le_refl _)]
  | succ d ih =>
    intro k q hk hq
    have hs : ct_cnt P (k + 1) = if P k = true then ct_cnt P k + 1 else ct_cnt P k := rfl
    have e2 : ct_sum P (e01 E) (k + 1) = if P k = true then ct_sum P (e01 E) k + e01 E k else ct_sum P (e01 E) k := rfl
    by_cases hP : P k = true
    · obtain ⟨q, rfl⟩ : ∃ z, q = z + 1 := ⟨q - 1, by omega⟩
      have e : ∀ a b, lX5_wireCount_4 n (q + 1) a b I J = fX5_wireCount_4 n (lX5_wireCount_4 n q) a b I J := fun _ _ => rfl
      rw [if_pos hP] at hs e2
      have hm := ct_cnt_mono P (a := k + 1) c (by omega)
      rw [e]
      unfold fX5_wireCount_4 fX5_wireCount_30
      rw [h22, if_neg (nI_ge (by omega) (by omega)), if_pos (inb_nI (by omega) (by decide)), clampI (by omega), h23 k (by omega) hP, hv k (by omega) hP, nI_1]
      simp only [Option.bind_some]
      have ih' := ih (k + 1) q (by omega) (by omega)
      rw [e2, hs] at ih'
      by_cases hz : E k = 0
      · rw [if_pos ((lg_cmp_eq _ _).mpr hz)]
        have e0 : e01 E k = 0 := if_pos hz
        rw [e0] at ih'
        exact ih'
      · rw [if_neg (fun z => hz ((lg_cmp_eq _ _).mp z)), nI_1]
        have e0 : e01 E k = 1 := if_neg hz
        rw [e0] at ih'
        exact ih'
    · rw [if_neg hP] at hs e2
      rw [← hs, ← e2]
      exact ih (k + 1) q (by omega) (by omega)
theorem wcR (n : Nat) {c : Nat} {I : MI} {J : MJ} {E : Nat → Int64} (hc : c ≤ 32) (h6 : I 44 6 = nI c) (hv : ∀ i, i < c → thB I i = true → fX10_endsOf n (nI i) I J = some (E i, I, J)) : ∀ q k, k ≤ c → c < q + k → lX10_wires_77 n q (nI (ct_sum (thB I) (e01 E) k)) (nI k) I J = some (nI (ct_sum (thB I) (e01 E) c), I, J) := by
  intro q
  induction q with
  | zero => intro k h1 h2; omega
  | succ q ih =>
    intro k h1 h2
    have e : ∀ a b, lX10_wires_77 n (q + 1) a b I J = fX10_wires_77 n (lX10_wires_77 n q) a b I J := fun _ _ => rfl
    rw [e]
    unfold fX10_wires_77 fX10_wires_111 fX10_wires_112
    rw [h6]
    by_cases hk : k = c
    · subst hk
      rw [if_pos (Int32.le_refl _)]
    rw [if_neg (nI_ge (by omega) (by omega)), isThing_eq n (by omega), nI_1]
    simp only [Option.bind_some]
    have e2 : ct_sum (thB I) (e01 E) (k + 1) = if thB I k = true then ct_sum (thB I) (e01 E) k + e01 E k else ct_sum (thB I) (e01 E) k := rfl
    have ih' := ih (k + 1) (by omega) (by omega)
    by_cases hP : thg I k
    · rw [b2_t hP, if_neg (by decide), hv k (by omega) (decide_eq_true hP)]
      rw [if_pos (decide_eq_true hP)] at e2
      rw [e2] at ih'
      simp only [Option.bind_some, lt]
      by_cases hz : E k = 0
      · rw [if_pos ((lg_cmp_eq _ _).mpr hz), show (0 : Int32) = nI 0 from rfl, nI_add]
        have e0 : e01 E k = 0 := if_pos hz
        rw [e0] at ih'
        exact ih'
      · rw [if_neg (fun z => hz ((lg_cmp_eq _ _).mp z)), nI_1]
        have e0 : e01 E k = 1 := if_neg hz
        rw [e0] at ih'
        exact ih'
    · rw [b2_f hP, if_pos rfl]
      rw [if_neg (fun q => hP (of_decide_eq_true q))] at e2
      rw [e2] at ih'
      simp only [lt]
      rw [show (0 : Int32) = nI 0 from rfl, nI_add, Nat.add_zero]
      exact ih'
theorem mt_loop (n : Nat) (x N : Nat) (hN : N = 36) (I : MI) (J : MJ) : ∀ q k, k ≤ N → N < q + k → lX10_manyTiles_4 n q (lN x) (nI (ct_pop k x)) (nI k) I J = some (nI (ct_pop N x), I, J) := by
  intro q
  induction q with
  | zero => intro k h1 h2; omega
  | succ q ih =>
    intro k h1 h2
    show fX10_manyTiles_4 n (lX10_manyTiles_4 n q) _ _ _ _ _ = _
    unfold fX10_manyTiles_4
    by_cases hk : k = N
    · rw [if_pos (show (36 : Int32) ≤ nI k from nI_le (a := 36) (by omega) (by omega)), hk]
    · rw [if_neg (show ¬ (36 : Int32) ≤ nI k from nI_ge (b := 36) (by omega) (by decide)), shr_and _ (by omega), bl_n (by omega), nI_1]
      have e : nI (ct_pop k x) + (if x.testBit k = true then (1 : Int64) else 0).toInt32 = nI (ct_pop (k + 1) x) := by
        show _ = nI (if x.testBit k = true then ct_pop k x + 1 else ct_pop k x)
        by_cases hb : x.testBit k = true
        · rw [if_pos hb, if_pos hb, show (1 : Int64).toInt32 = 1 from rfl, nI_1]
        · rw [if_neg hb, if_neg hb, show (0 : Int64).toInt32 = nI 0 from rfl, nI_add, Nat.add_zero]
      simp only [lt]
      rw [e]
      exact ih (k + 1) (by omega) (by omega)
theorem ends_cnt (n : Nat) (hn : 2400 < n) {v : Int64} (hv : ∀ t, t < 64 → bl v t = true → t < 36) (I : MI) (J : MJ) : ∃ a : Int32, fJ13_bitCount_95d88 n v I J = some (a, I, J) ∧ ∀ I' : MI, fX10_manyTiles n v I' J = some (a, I', J) := by
  obtain ⟨x, hx, rfl⟩ := wb_of v
  have h36 : x < 2 ^ 36 := by
    by_cases h : x < 2 ^ 36
    · exact h
    · exfalso
      obtain ⟨i, h1, h2⟩ := Nat.exists_ge_and_testBit_of_ge_two_pow (Nat.not_lt.mp h)
      by_cases h64 : i < 64
      · have := hv i h64 (by rw [bl_n h64]; exact h2)
        omega
      · rw [ct_tb (show x < 2 ^ 64 from hx) (by omega)] at h2
        cases h2
  have e : ct_pop 64 x = ct_pop 36 x := ct_pop_ext (a := 36) h36 64 (by decide)
  refine ⟨nI (ct_pop 36 x), (bitCount_eq n hx I J).trans (congrArg (fun z => some (nI z, I, J)) e), fun I' => ?_⟩
  exact mt_loop n x 36 rfl I' J n 0 (Nat.zero_le _) (by omega)
theorem B_wires_ok (n : Nat) (hn : 2400 < n) : B_wires Inv n := by
  intro x z m I J hI
  obtain ⟨pr, pq, pf, c', ni, nk, no, pn, ⟨pu, pg, pw, pp, pfr, pe⟩⟩ := id hI
  have hc' := pn.1.1
  have h5' := pn.2.1.1
  have h6' := pn.2.1.2.1
  have f22 := pf.1.2.1
  have u44 : ∀ (j : Nat) (v : Int32), upM I 43 j v 44 = I 44 := fun j v => up43 (by decide)
  have u45 : ∀ (j : Nat) (v : Int32), upM I 43 j v 45 = I 45 := fun j v => up43 (by decide)
  have u55 : ∀ (j : Nat) (v : Int32), upM I 43 j v 55 = I 55 := fun j v => up43 (by decide)
  have hdec := Inv_dec m I J hI
  /- the class behind its number of a cell -/
  have main : (z = 1 → ∃ o, o < c' ∧ x = nI o) → (∀ I' : MI, I' 44 = I 44 → fX10_wires n x z I' J = fX10_wires_20 n x z I' J) → tot (fX9_wires_23 n x z I J) (fun r => tot (fX10_wires n x z r.2.1 r.2.2) (fun q => r.1 = q.1 ∧ Inv m q.2.1 q.2.2)) := by
    intro hx hX
    unfold fX9_wires_23
    by_cases h22 : I 22 0 = 0
    · rw [if_pos h22]
      unfold fX9_wires_49
      rw [ref_2]
      refine rr (j := 0) (f := fX10_wires n x z) (by decide) hI ?_
      rw [hX _ (u44 _ _)]
      unfold fX10_wires_20 fX10_wires_40
      rw [u44, if_pos (by rw [← f22]; exact h22), no_2]
      rfl
    rw [if_neg h22]
    have h12 : I 44 12 = 1 := pf.2.1.2.1.resolve_left (by rw [← f22]; exact h22)
    obtain ⟨c, w, h, τ, hc, w1, w2, g1, g2, e5, e6, e24, e25, hcl, ho, hf, -, ht⟩ := sctx2 hI h12
    have hwh := wh_le w2 g2
    obtain rfl : c' = c := (nI_eq (by omega) (by omega)).mp (h5'.symm.trans e5)
    obtain ⟨E, hE⟩ := ends_ex n hn hc hwh (J := J) hcl e6 ho hf ht
    have bad : ¬ z = 1 → ¬ z = 0 → tot (fX9_wires_65 n I J) (fun r => tot (fX10_wires n x z r.2.1 r.2.2) (fun q => r.1 = q.1 ∧ Inv m q.2.1 q.2.2)) := by
      intro z1 z0
      unfold fX9_wires_65
      rw [ref_7]
      refine rr (j := 5) (f := fX10_wires n x z) (by decide) hI ?_
      rw [hX _ (u44 _ _)]
      unfold fX10_wires_20 fX10_wires_47
      rw [u44, if_neg (by rw [h12]; decide), if_neg z1, if_neg z1, if_neg z0, no_7]
      rfl
    by_cases z1 : z = 1
    · subst z1
      obtain ⟨i, hi, rfl⟩ := hx rfl
      rw [if_pos rfl, holds_thg hi hc pf pp]
      simp only [Option.bind_some]
      by_cases hth : thg I i
      · rw [b2_t ⟨h12, hth⟩, if_neg (by decide)]
        obtain ⟨v1, v2, v3⟩ := hE i hi hth
        obtain ⟨a, a1, a2⟩ := ends_cnt n hn (v := E i) (fun t h64 hb => by
          obtain ⟨⟨u, q1, q2, q3⟩, -⟩ := (v3 t h64).mp hb
          have := (ht u q1 (hf u i q1 q2)).2
          omega) I J
        unfold fX9_wires_56
        rw [if_neg (by decide), if_pos (by decide), if_neg (by decide), v1]
        simp only [Option.bind_some]
        rw [a1]
        simp only [Option.bind_some]
        refine tot_some.mpr ?_
        show tot (fX10_wires n (nI i) 1 I J) _
        rw [hX I rfl]
        unfold fX10_wires_20 fX10_wires_47
        rw [if_neg (by rw [h12]; decide), if_pos rfl, isThing_eq n (by omega), b2_t hth]
        simp only [Option.bind_some, if_true]
        rw [if_neg (by decide), v2]
        simp only [Option.bind_some]
        rw [a2]
        exact tot_some.mpr ⟨rfl, hdec⟩
      · rw [b2_f (fun q => hth q.2), if_pos rfl]
        unfold fX9_wires_49
        rw [ref_2]
        refine rr (j := 0) (f := fX10_wires n (nI i) 1) (by decide) hI ?_
        rw [hX _ (u44 _ _)]
        unfold fX10_wires_20 fX10_wires_40
        rw [u44, if_neg (by rw [h12]; decide), if_pos rfl, isThing_eq n (by omega), u45, u55, b2_f hth]
        simp only [Option.bind_some, if_true]
        rw [no_2]
        rfl
    · rw [if_neg z1]
      unfold fX9_wires_56
      by_cases zn : z < 0
      · rw [if_pos zn]
        exact bad z1 (fun q => by rw [q] at zn; exact absurd zn (by decide))
      rw [if_neg zn]
      by_cases zl : z ≤ 1
      · obtain ⟨k, hk, rfl⟩ := nI_of zn
        have hk1 := (nI_leI (b := 1) hk (by decide)).mp zl
        have hk0 : k = 0 := by
          by_cases q : k = 1
          · rw [q] at z1; exact absurd rfl z1
          · omega
        subst hk0
        rw [if_pos zl, if_pos (by decide)]
        have hC : fX5_wireCount n I J = some (nI (ct_sum (thB I) (e01 E) c'), I, J) := wcC n hc hcl.1 hcl.2.1 (fun i hi hP => (hE i hi (of_decide_eq_true hP)).1) c' 0 n (by omega) (by omega)
        rw [hC]
        simp only [Option.bind_some]
        refine tot_some.mpr ?_
        show tot (fX10_wires n x (nI 0) I J) _
        rw [hX I rfl]
        unfold fX10_wires_20 fX10_wires_47
        have hR : lX10_wires_77 n n 0 0 I J = some (nI (ct_sum (thB I) (e01 E) c'), I, J) := wcR n hc e6 (fun i hi hP => (hE i hi (of_decide_eq_true hP)).2.1) n 0 (Nat.zero_le _) (by omega)
        rw [if_neg (by rw [h12]; decide), if_neg z1, if_neg z1, if_pos (by decide), hR]
        exact tot_some.mpr ⟨rfl, hdec⟩
      · rw [if_neg zl]
        exact bad z1 (fun q => by rw [q] at zl; exact absurd (by decide) zl)
  unfold fX9_wires
  by_cases z1 : z = 1
  · rw [if_pos z1]
    by_cases hx : ∃ o, o < c' ∧ x = nI o
    · obtain ⟨i, hi, rfl⟩ := hx
      rw [has_yes (c := c') (by omega) h5' hi]
      simp only [Option.bind_some]
      rw [if_neg (by decide)]
      refine main (fun _ => ⟨i, hi, rfl⟩) (fun I' h44 => ?_)
      unfold fX10_wires
      rw [if_pos z1, isCell_yes (c := c') (by omega) (by rw [h44]; exact h6') hi]
      simp only [Option.bind_some]
      rw [if_neg (by decide)]
    · rw [has_no (c := c') (by omega) h5' hx]
      simp only [Option.bind_some, if_true]
      rw [ref_3]
      refine rr (j := 1) (f := fX10_wires n x z) (by decide) hI ?_
      unfold fX10_wires
      rw [if_pos z1, isCell_no (c := c') (by omega) (by rw [u44]; exact h6') hx]
      simp only [Option.bind_some, if_true]
      rw [no_3]
      rfl
  · rw [if_neg z1]
    refine main (fun q => absurd q z1) (fun I' _ => ?_)
    unfold fX10_wires
    rw [if_neg z1]
