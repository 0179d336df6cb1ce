/-! tables: a state that is held stays so -/
theorem kOk_uniq {K K' : Nat → Cuts} {D D' : Nat → Nat} {I : MI} {c : Nat} (hc : c ≤ 32) (h : ∀ g, g < c → kOk K D I g) (h' : ∀ g, g < c → kOk K' D' I g) : ∀ g, g < c → (K g).1 = (K' g).1 ∧ ct_ch (K g) g = ct_ch (K' g) g ∧ D g = D' g ∧ (I 2 g = 2 → K g = K' g) := by
  intro g
  induction g using Nat.strongRecOn with
  | ind g ih =>
    intro hg
    rcases h g hg with ⟨a1, a2, a3⟩ | ⟨a1, x, y, hx, hy, a2, a3, a4, a5⟩
    · rcases h' g hg with ⟨b1, b2, b3⟩ | ⟨b1, -⟩
      · refine ⟨by rw [a2, b2], ?_, by rw [a3, b3], fun z => absurd z a1⟩
        funext i
        unfold ct_ch
        rw [a2, b2, if_neg (Nat.not_lt_zero _), if_neg (Nat.not_lt_zero _)]
      · exact absurd b1 a1
    · rcases h' g hg with ⟨b1, -, -⟩ | ⟨b1, x', y', hx', hy', b2, b3, b4, b5⟩
      · exact absurd a1 b1
      · obtain rfl : x = x' := (nI_eq (by omega) (by omega)).mp (a2.symm.trans b2)
        obtain rfl : y = y' := (nI_eq (by omega) (by omega)).mp (a3.symm.trans b3)
        obtain ⟨p1, p2, p3, p4⟩ := ih (x / 2) (by omega) (by omega)
        obtain ⟨q1, q2, q3, q4⟩ := ih (y / 2) (by omega) (by omega)
        have hD : ∀ i, i < g → D i = D' i := fun i hi => (ih i hi (by omega)).2.2.1
        have hr : ct_rk g D = ct_rk g D' := ct_rk_congr hD
        have hKK : K g = K' g := by
          rw [a4, b4]
          unfold ct_gl
          rw [p1, p2, q1, q2, hr]
        refine ⟨by rw [hKK], by rw [hKK], ?_, fun _ => hKK⟩
        rw [a5, b5, hKK, ct_md_congr hD g (Nat.le_refl _)]
theorem tw_uniq {c no : Nat} {K K' : Nat → Cuts} {s x u : Nat → Int32} (hK : ∀ g, g < c → s g = 2 → (K g).2 0 < 2 ^ g) (h : ∀ g, g < c → s g = 2 → K g = K' g) : ∀ k, k ≤ c → ∀ i, tw c no K s x u k i ↔ tw c no K' s x u k i := by
  intro k
  induction k with
  | zero => intro _ i; exact Iff.rfl
  | succ k ih =>
    intro hk i
    have e1 := ih (by omega) i
    have e2 := ih (by omega) (c - 1 - k)
    constructor
    · rintro (z | ⟨z1, z2, z3⟩)
      · exact Or.inl (e1.mp z)
      · refine Or.inr ⟨e2.mp z1, ?_, z3⟩
        rw [← h _ (by omega) (tw_lt hK k (by omega) _ z1).2]
        exact z2
    · rintro (z | ⟨z1, z2, z3⟩)
      · exact Or.inl (e1.mpr z)
      · refine Or.inr ⟨e2.mpr z1, ?_, z3⟩
        rw [h _ (by omega) (tw_lt hK k (by omega) _ (e2.mpr z1)).2]
        exact z2
/-- tables that were found before are those that are found now -/
theorem PT_with {c no : Nat} {I : MI} (hc : c ≤ 32) (hno : no ≤ 8) (h8 : I 1 8 = nI no) (hp : PT c I) (h11 : I 44 11 = 1) {K : Nat → Cuts} {D : Nat → Nat} {W : Nat → Bool} (k1 : ∀ g, g < c → kOk K D I g) (hK : ∀ g, g < c → I 2 g = 2 → (K g).2 0 < 2 ^ g) (hW : ∀ i, W i = true ↔ tw c no K (I 2) (I 3) (I 6) c i) : (∀ g, g < 32 → bt (I 11 6) g = W g) ∧ (∀ g, g < c → I 55 g = if W g = true then 1 else 0) ∧ I 11 1 = nI (ct_cnt W c) ∧ ∀ g, g < c → W g = true → tabOk K I g := by
  obtain ⟨no', K', D', W', a1, a2, a3, a4, a5, a6, a7, a8⟩ := hp h11
  obtain rfl : no' = no := (nI_eq (by omega) (by omega)).mp (a2.symm.trans h8)
  have hu := kOk_uniq hc k1 a3
  have htw := tw_uniq (no := no') (x := I 3) (u := I 6) hK (fun g hg hs => (hu g hg).2.2.2 hs) c (Nat.le_refl _)
  have hWW : W' = W := by
    funext i
    have : W' i = true ↔ W i = true := (a4 i).trans ((htw i).symm.trans (hW i).symm)
    cases q1 : W' i <;> cases q2 : W i <;> simp_all
  subst hWW
  refine ⟨a5, a6, a7, fun g hg hw => ?_⟩
  have := a8 g hg hw
  unfold tabOk at this ⊢
  rw [(hu g hg).2.2.2 (tw_lt hK c (Nat.le_refl _) g ((hW g).mp hw)).2]
  exact this
theorem B_tables_ok (n : Nat) (hn : 2400 < n) : B_tables Inv n := by
  intro m I J hI
  obtain ⟨pr, pq, pf, c, ni, nk, no, pn, ⟨pu, pg, pw, pp, pfr, pe⟩⟩ := id hI
  have hc := pn.1.1
  have hno := pn.1.2.2.2
  have h6 := pn.2.1.2.1
  have e7 := pn.2.1.2.2.2.2.2.2.1
  obtain ⟨-, K, D, k1, k2, -⟩ := id pe.1
  have hwf := kOk_wf hc k1
  have hK : ∀ g, g < c → I 2 g = 2 → (K g).2 0 < 2 ^ g := fun g hg hs => ((hwf g hg).1.2.2 0 ((hwf g hg).2.2 hs)).1
  obtain ⟨W, hW⟩ : ∃ W : Nat → Bool, ∀ i, W i = true ↔ tw c no K (I 2) (I 3) (I 6) c i := by
    classical
    exact ⟨fun i => decide (tw c no K (I 2) (I 3) (I 6) c i), fun i => decide_eq_true_iff⟩
  obtain ⟨I1, a1, a2, a3, a4, a5, a6⟩ := find_ok n hn pn k1 k2 hK hW
  obtain ⟨V, hV⟩ : ∃ V : Nat → Nat → Nat → Bool, ∀ g, g < c → W g = true → ∃ b, b < 65536 ∧ I1 13 g = nI b ∧ valOk I g ((K g).2 0) (V g) ∧ ∀ i, i < 16 → b.testBit i = V g i g := by
    have hex : ∀ g, ∃ Vg : Nat → Nat → Bool, g < c → W g = true → ∃ b, b < 65536 ∧ I1 13 g = nI b ∧ valOk I g ((K g).2 0) Vg ∧ ∀ i, i < 16 → b.testBit i = Vg i g := by
      intro g
      by_cases h : g < c ∧ W g = true
      · obtain ⟨-, -, b, Vg, d1, d2, d3, d4⟩ := a6 g h.1 h.2
        exact ⟨Vg, fun _ _ => ⟨b, d1, d2, d3, d4⟩⟩
      · exact ⟨fun _ _ => false, fun h1 h2 => absurd ⟨h1, h2⟩ h⟩
    exact ⟨fun g => (hex g).choose, fun g => (hex g).choose_spec⟩
  unfold fX9_tables
  rw [a1]
  simp only [Option.bind_some]
  refine tot_some.mpr ?_
  show tot (fX10_tables n I1 J) _
  have f1 : ∀ (l : List Nat), (∀ a ∈ l, a ≠ 11 ∧ a ≠ 12 ∧ a ≠ 13 ∧ a ≠ 14 ∧ a ≠ 15) → ∀ a ∈ l, I1 a = I a := fun l hl a ha => a2 a (hl a ha).1 (hl a ha).2.1 (hl a ha).2.2.1 (hl a ha).2.2.2.1 (hl a ha).2.2.2.2
  have g44 := f1 [44] (by decide) 44 (by decide)
  have pn1 : PN c ni nk no I1 := PN_fr (f1 _ (by decide)) (fun j _ => by rw [g44]) pn
  have pk1 : PK c I1 J := PK_fr (f1 _ (by decide)) (by rw [g44]) rfl pe.1
  obtain ⟨I2, b1, b2, b3, K2, D2, b4, -, b6, b7⟩ := findCuts_ok n hn hc (by rw [g44]; exact h6) (fun g hg => ⟨(pn1.2.2.1 g hg).1, (pn1.2.2.1 g hg).2.1, (pn1.2.2.1 g hg).2.2.1⟩) pk1
  have f2 : ∀ a, a ≠ 11 → a ≠ 12 → a ≠ 13 → a ≠ 14 → a ≠ 15 → a ≠ 52 → a ≠ 53 → a ≠ 54 → a ≠ 44 → I2 a = I a := fun a q1 q2 q3 q4 q5 q6 q7 q8 q9 => by rw [b2 a q6 q7 q8 q9]; exact a2 a q1 q2 q3 q4 q5
  have f2' : ∀ (l : List Nat), (∀ a ∈ l, a ≠ 11 ∧ a ≠ 12 ∧ a ≠ 13 ∧ a ≠ 14 ∧ a ≠ 15 ∧ a ≠ 52 ∧ a ≠ 53 ∧ a ≠ 54 ∧ a ≠ 44) → ∀ a ∈ l, I2 a = I a := fun l hl a ha => f2 a (hl a ha).1 (hl a ha).2.1 (hl a ha).2.2.1 (hl a ha).2.2.2.1 (hl a ha).2.2.2.2.1 (hl a ha).2.2.2.2.2.1 (hl a ha).2.2.2.2.2.2.1 (hl a ha).2.2.2.2.2.2.2.1 (hl a ha).2.2.2.2.2.2.2.2
  have g2 := f2' [2] (by decide) 2 (by decide)
  have g3 := f2' [3] (by decide) 3 (by decide)
  have g4 := f2' [4] (by decide) 4 (by decide)
  have g5 := f2' [5] (by decide) 5 (by decide)
  have g6 := f2' [6] (by decide) 6 (by decide)
  have pn2 : PN c ni nk no I2 := PN_fr (f2' _ (by decide)) (fun j hj => by
    simp only [List.mem_cons, List.not_mem_nil, or_false] at hj
    rw [b3 j (by omega), g44]) pn
  have k1' : ∀ g, g < c → kOk K D I2 g := by
    intro g hg
    unfold kOk
    rw [g2, g3, g4]
    exact k1 g hg
  have k3' : ∀ g, g < c → krOk K D I2 g := by
    intro g hg
    obtain ⟨u1, u2, u3, -⟩ := kOk_uniq hc k1' b4 g hg
    obtain ⟨r1, r2, r3⟩ := b6 g hg
    refine ⟨by rw [u1]; exact r1, by rw [u3]; exact r2, fun i hi => ?_⟩
    rw [r3 i (by omega)]
    have := congrFun u2 i
    unfold ct_ch at this
    rw [if_pos hi, if_pos (by omega)] at this
    rw [this]
  have hW2 : ∀ i, W i = true ↔ tw c no K (I2 2) (I2 3) (I2 6) c i := by rw [g2, g3, g6]; exact hW
  have hV2 : ∀ g, g < c → W g = true → valOk I2 g ((K g).2 0) (V g) := by
    intro g hg hw
    obtain ⟨b, -, -, q, -⟩ := hV g hg hw
    intro z hz y hy
    rw [q z hz y hy]
    exact (valR_fr (f2' _ (by decide))).symm
  obtain ⟨I3, c1, c2, c3, c4, c5, c6⟩ := tables_ref n hn (J := J) pn2 k1' k3' (by rw [g2]; exact hK) hW2 hV2
  unfold fX10_tables
  rw [b1]
  simp only [Option.bind_some]
  rw [c1]
  have ecnt : ct_cr W c c = ct_cnt W c := by
    have := ct_cr_eq W c c (Nat.le_refl _)
    rw [Nat.sub_self] at this
    have z : ct_cnt W 0 = 0 := rfl
    omega
  have f3 : ∀ a, a ≠ 11 → a ≠ 12 → a ≠ 13 → a ≠ 14 → a ≠ 15 → a ≠ 52 → a ≠ 53 → a ≠ 54 → a ≠ 44 → a ≠ 55 → a ≠ 56 → a ≠ 57 → a ≠ 58 → a ≠ 59 → I3 a = I a := fun a q1 q2 q3 q4 q5 q6 q7 q8 q9 q10 q11 q12 q13 q14 => by rw [c2 a q10 q11 q12 q13 q14 q9]; exact f2 a q1 q2 q3 q4 q5 q6 q7 q8 q9
  have f3' : ∀ (l : List Nat), (∀ a ∈ l, a ∉ [11, 12, 13, 14, 15, 44, 52, 53, 54, 55, 56, 57, 58, 59]) → ∀ a ∈ l, I3 a = I a := by
    intro l hl a ha
    have := hl a ha
    simp only [List.mem_cons, List.not_mem_nil, or_false, not_or] at this
    exact f3 a (by omega) (by omega) (by omega) (by omega) (by omega) (by omega) (by omega) (by omega) (by omega) (by omega) (by omega) (by omega) (by omega) (by omega)
  have e44 : ∀ j, j ≠ 11 → j ≠ 15 → I3 44 j = I 44 j := fun j q1 q2 => by rw [c3 j q1, b3 j q2, g44]
  have e44' : ∀ (l : List Nat), (∀ j ∈ l, j ≠ 11 ∧ j ≠ 15) → ∀ j ∈ l, I3 44 j = I 44 j := fun l hl j hj => e44 j (hl j hj).1 (hl j hj).2
  have e11 : ∀ z, I3 11 z = I1 11 z := fun z => by rw [c2 11 (by decide) (by decide) (by decide) (by decide) (by decide) (by decide), b2 11 (by decide) (by decide) (by decide) (by decide)]
  have e12 : I3 12 = I1 12 := by rw [c2 12 (by decide) (by decide) (by decide) (by decide) (by decide) (by decide), b2 12 (by decide) (by decide) (by decide) (by decide)]
  have e13 : I3 13 = I1 13 := by rw [c2 13 (by decide) (by decide) (by decide) (by decide) (by decide) (by decide), b2 13 (by decide) (by decide) (by decide) (by decide)]
  have e14 : I3 14 = I1 14 := by rw [c2 14 (by decide) (by decide) (by decide) (by decide) (by decide) (by decide), b2 14 (by decide) (by decide) (by decide) (by decide)]
  have h55 : I 44 11 = 1 → ∀ g, g < c → I3 55 g = I 55 g := by
    intro h11 g hg
    rw [c5 g hg, (PT_with hc hno e7 pe.2.1 h11 k1 hK hW).2.1 g hg]
  have htab : ∀ g, g < c → W g = true → tabOk K I3 g := by
    intro g hg hw
    obtain ⟨y1, y2, -⟩ := a6 g hg hw
    obtain ⟨⟨z1, z2⟩, z3⟩ := c6 g hg hw
    obtain ⟨b, d1, d2, d3, d4⟩ := hV g hg hw
    refine ⟨by rw [e12]; exact y1, z1, fun i hi hb => ⟨by rw [e14]; exact y2 i hi hb, z2 i hi hb⟩, b, d1, by rw [e13]; exact d2, ?_⟩
    rw [z3, ← vb_eq (f := fun i => V g i g) d1 d4]
  have hlet : I 44 11 = 1 → ∀ u, u < c → I 45 u = 2 → ¬ I 55 u = 0 → I3 57 u = I 57 u ∧ ∀ j, j < 4 → nI j < I 57 u → I3 56 (4 * u + j) = I 56 (4 * u + j) := by
    intro h11 u hu _ q2
    obtain ⟨-, w2, -, w4⟩ := PT_with hc hno e7 pe.2.1 h11 k1 hK hW
    have hw : W u = true := by
      rw [w2 u hu] at q2
      by_cases z : W u = true
      · exact z
      · rw [if_neg z] at q2; exact absurd rfl q2
    obtain ⟨-, o1, o2, -⟩ := w4 u hu hw
    obtain ⟨-, n1, n2, -⟩ := htab u hu hw
    have hsu := (tw_lt hK c (Nat.le_refl _) u ((hW u).mp hw)).2
    have hpu : ct_pop u ((K u).2 0) = ct_pop 32 ((K u).2 0) := (ct_pop_ext (hK u hu hsu) 32 (by omega)).symm
    refine ⟨by rw [n1, o1], fun j hj hlt => ?_⟩
    have hpl := ct_pop_le ((K u).2 0) 32
    rw [o1] at hlt
    generalize ct_pop 32 ((K u).2 0) = N at *
    have hjN := (nI_ltI (by omega) (by omega)).mp hlt
    obtain ⟨i, i1, i2, i3⟩ := ct_pop_at ((K u).2 0) u j (by rw [hpu]; exact hjN)
    have z1 := (n2 i i1 i2).2
    have z2 := (o2 i i1 i2).2
    rw [i3] at z1 z2
    rw [z1, z2]
  have hPT : PT c I3 := by
    intro _
    refine ⟨no, K, D, W, hno, ?_, ?_, ?_, fun g hg => ?_, c5, ?_, htab⟩
    · rw [f3' [1] (by decide) 1 (by decide)]; exact e7
    · intro g hg
      unfold kOk
      rw [f3' [2] (by decide) 2 (by decide), f3' [3] (by decide) 3 (by decide), f3' [4] (by decide) 4 (by decide)]
      exact k1 g hg
    · rw [f3' [2] (by decide) 2 (by decide), f3' [3] (by decide) 3 (by decide), f3' [6] (by decide) 6 (by decide)]
      exact hW
    · rw [e11]
      have := a4 g hg
      cases q1 : bt (I1 11 6) g <;> cases q2 : W g <;> simp_all
    · rw [e11, a5, ecnt]
  have hPK : PK c I3 J := PK_fr (fun a ha => by
    simp only [List.mem_cons, List.not_mem_nil, or_false] at ha
    exact c2 a (by omega) (by omega) (by omega) (by omega) (by omega) (by omega)) (c3 15 (by decide)) rfl b7
  have hfin : Inv m I3 J := by
   refine ⟨PR_fr (f3' _ (by decide)) pr, PQ_fr (f3' _ (by decide)) (e44 48 (by decide) (by decide)) pq, ?_, c, ni, nk, no, PN_fr (f3' _ (by decide)) (e44' _ (by decide)) pn, PU_fr (f3' _ (by decide)) (by rw [f3' [34] (by decide) 34 (by decide)]) (e44' _ (by decide)) (PU_dec pu), PG_fr (f3' _ (by decide)) (e44' _ (by decide)) rfl pg, PW_fr (f3' _ (by decide)) (e44 13 (by decide) (by decide)) rfl pw, ?_, PF_fr (f3' _ (by decide)) (by rw [f3' [16] (by decide) 16 (by decide)]) (e44 14 (by decide) (by decide)) pfr, hPK, hPT, PS_tab (f3' _ (by decide)) (e44 12 (by decide) (by decide)) (fun h12 => h55 (pf.2.2.1 h12)) (fun h12 => hlet (pf.2.2.1 h12)) pe.2.2.1, ⟨PB_tab (f3' _ (by decide)) (e44 14 (by decide) (by decide)) (fun h14 => h55 (pf.2.2.1 (pf.2.2.2.2 h14))) (fun h14 u hu q1 q2 => (hlet (pf.2.2.1 (pf.2.2.2.2 h14)) u hu q1 q2).1) pe.2.2.2.1.1, PL_tab (f3' _ (by decide)) (e44 13 (by decide) (by decide)) (fun h13 => h55 (pf.2.2.1 (pf.2.2.2.1 h13))) (fun h13 => hlet (pf.2.2.1 (pf.2.2.2.1 h13))) pe.2.2.2.1.2⟩, PC_fr (f3' [1] (by decide) 1 (by decide)) (f3' [2] (by decide) 2 (by decide)) pe.2.2.2.2⟩
   · obtain ⟨⟨p1, p2, p3, p4⟩, ⟨p5, p6, p7, p8⟩, p9, p10, p11⟩ := pf
     unfold Pf
     rw [c4, e11, a3, e44 12 (by decide) (by decide), e44 13 (by decide) (by decide), e44 14 (by decide) (by decide), f3' [22] (by decide) 22 (by decide), f3' [28] (by decide) 28 (by decide), f3' [34] (by decide) 34 (by decide)]
     exact ⟨⟨rfl, p2, p3, p4⟩, ⟨Or.inr rfl, p6, p7, p8⟩, fun _ => rfl, p10, p11⟩
   · intro h12
     rw [e44 12 (by decide) (by decide)] at h12
     have h11 := pf.2.2.1 h12
     intro i hi
     have := pp h12 i hi
     unfold thg at this ⊢
     rw [h55 h11 i hi, f3' [45] (by decide) 45 (by decide), f3' [24] (by decide) 24 (by decide), f3' [61] (by decide) 61 (by decide)]
     exact this
  exact tot_some.mpr ⟨a5, hfin⟩
theorem B_table_ok (n : Nat) (hn : 2400 < n) : B_table Inv n := by
  intro x z m I J hI
  obtain ⟨pr, pq, pf, c, ni, nk, no, pn, ⟨pu, pg, pw, pp, pfr, pe⟩⟩ := id hI
  have hc := pn.1.1
  have h5 := pn.2.1.1
  have h6 := pn.2.1.2.1
  have f11 := pf.1.1
  have u44 : ∀ (j : Nat) (v : Int32), upM I 43 j v 44 = I 44 := fun j v => up43 (by decide)
  unfold fX9_table
  by_cases hx : ∃ o, o < c ∧ x = nI o
  case neg =>
    rw [wrongGate_no n hc h5 hx]
    simp only [Option.bind_some, lt]
    rw [if_neg (by decide), ref_3]
    refine rr (j := 1) (f := fX10_table n x z) (by decide) hI ?_
    unfold fX10_table
    rw [isCell_no (c := c) (by omega) (by rw [u44]; exact h6) hx]
    simp only [Option.bind_some, if_true]
    rw [no_3]
    rfl
  obtain ⟨g, hg, rfl⟩ := hx
  have h45 := (pn.2.2.1 g hg).1
  rw [wrongGate_eq n hc h5 hg]
  simp only [Option.bind_some, lt]
  by_cases hs : I 2 g = 2
  case neg =>
    rw [if_neg hs, if_neg (by decide), ref_5]
    refine rr (j := 3) (f := fX10_table n (nI g) z) (by decide) hI ?_
    unfold fX10_table
    rw [isCell_yes (c := c) (by omega) (by rw [u44]; exact h6) hg]
    simp only [Option.bind_some]
    rw [if_neg (by decide), if_pos (inb_nI (by omega) (by decide)), clampI (by omega), up43 (by decide), if_neg (by rw [h45]; exact hs), no_5]
    rfl
  rw [if_pos hs, if_pos rfl]
  have miss : (I 44 11 = 0 ∨ I 55 g = 0) → tot (fX9_table_37 n I J) (fun r => tot (fX10_table n (nI g) z r.2.1 r.2.2) (fun q => r.1 = q.1 ∧ Inv m q.2.1 q.2.2)) := by
    intro hh
    unfold fX9_table_37
    rw [ref_2]
    refine rr (j := 0) (f := fX10_table n (nI g) z) (by decide) hI ?_
    unfold fX10_table fX10_table_48
    rw [isCell_yes (c := c) (by omega) (by rw [u44]; exact h6) hg]
    simp only [Option.bind_some]
    rw [if_neg (by decide), if_pos (inb_nI (by omega) (by decide)), clampI (by omega), up43 (show (45 : Nat) ≠ 43 by decide), if_pos (by rw [h45]; exact hs), up43 (show (44 : Nat) ≠ 43 by decide), up43 (show (55 : Nat) ≠ 43 by decide)]
    by_cases h11 : I 44 11 = 0
    · rw [if_pos h11, no_2]; rfl
    · rw [if_neg h11, if_pos (inb_nI (by omega) (by decide)), if_pos (hh.resolve_left h11), no_2]; rfl
  by_cases h11 : I 11 0 = 0
  · rw [if_pos h11]
    exact miss (Or.inl (by rw [← f11]; exact h11))
  rw [if_neg h11]
  have h11' : I 44 11 = 1 := pf.2.1.1.resolve_left (by rw [← f11]; exact h11)
  obtain ⟨no', K, D, W, -, -, k1, hW, t1, t2, -, t3⟩ := pe.2.1 h11'
  rw [isTable_eq n (by omega), t1 g (by omega)]
  simp only [Option.bind_some]
  by_cases hw : W g = true
  case neg =>
    rw [b2_f hw, if_pos rfl]
    exact miss (Or.inr (by rw [t2 g hg, if_neg hw]))
  rw [b2_t hw, if_neg (by decide)]
  have e55 : I 55 g = 1 := by rw [t2 g hg, if_pos hw]
  obtain ⟨y1, y2, y3, b, hb, y4, y5⟩ := t3 g hg hw
  have wok := (kOk_wf hc k1 g hg)
  have w1 := wok.2.2 hs
  have hcone := wok.1.2.2 0 (by omega)
  have hM : ∀ (I' : MI), I' 44 = I 44 → I' 45 = I 45 → I' 55 = I 55 → fX10_table n (nI g) z I' J = Option.bind (fX10_isIn n z.toInt64 0 5 I' J) (fun r61 => (if r61.1 = 0 then Option.bind (fX10_no n (-7 : Int32) r61.2.1 r61.2.2) (fun r70 => some (r70.1, r70.2.1, r70.2.2)) else (if z = 0 then some ((r61.2.1 57 g), r61.2.1, r61.2.2) else (if z = (1 : Int32) then some ((r61.2.1 58 g), r61.2.1, r61.2.2) else (if (r61.2.1 57 g) ≤ (z - (2 : Int32)) then some ((-1 : Int32), r61.2.1, r61.2.2) else (if inb ((((4 : Int32) * nI g) + z) - (2 : Int32)) 128 = true then some ((r61.2.1 56 (((((4 : Int32) * nI g) + z) - (2 : Int32))).toNatClampNeg), r61.2.1, r61.2.2) else none)))))) := by
    intro I' a1 a2 a3
    unfold fX10_table
    rw [isCell_yes (c := c) (by omega) (by rw [a1]; exact h6) hg]
    simp only [Option.bind_some, inb_nI (show g < 32 by omega) (show (32 : Nat) < 2 ^ 31 by decide), if_true, clampI (show g < 2 ^ 31 by omega), a1, a2, a3]
    rw [if_neg (by decide), if_pos (by rw [h45]; exact hs), if_neg (by rw [h11']; decide), if_neg (by rw [e55]; decide)]
  have bad : ¬ (0 ≤ z.toInt ∧ z.toInt ≤ 5) → tot (fX9_table_53 n I J) (fun r => tot (fX10_table n (nI g) z r.2.1 r.2.2) (fun q => r.1 = q.1 ∧ Inv m q.2.1 q.2.2)) := by
    intro hh
    unfold fX9_table_53
    rw [ref_7]
    refine rr (j := 5) (f := fX10_table n (nI g) z) (by decide) hI ?_
    rw [hM _ (up43 (by decide)) (up43 (by decide)) (up43 (by decide)), isIn_i]
    simp only [Option.bind_some, Int64.reduceToInt]
    rw [if_pos (b2_f hh), no_7]
    rfl
  by_cases z0 : z < 0
  · rw [if_pos z0]
    exact bad (fun q => by have := lt0.mp z0; omega)
  rw [if_neg z0]
  obtain ⟨k, hk, rfl⟩ := nI_of z0
  by_cases k5 : k ≤ 5
  case neg =>
    rw [if_neg (show ¬ nI k ≤ (5 : Int32) from nI_ge (a := 5) (by omega) (by omega))]
    exact bad (fun q => by rw [nI_toInt hk] at q; omega)
  rw [if_pos (show nI k ≤ (5 : Int32) from nI_le (b := 5) k5 (by decide))]
  have hR := hM I rfl rfl rfl
  rw [isIn_i] at hR
  simp only [Option.bind_some, Int64.reduceToInt] at hR
  rw [if_neg (fun q => b2_0.mp q (by rw [nI_toInt hk]; omega))] at hR
  have hdec := Inv_dec m I J hI
  by_cases k0 : k = 0
  · subst k0
    rw [if_pos (by decide), if_pos (inb_nI (by omega) (by decide)), clampI (by omega)]
    refine tot_some.mpr ?_
    show tot (fX10_table n (nI g) (nI 0) I J) _
    rw [if_pos (by decide)] at hR
    rw [hR]
    exact tot_some.mpr ⟨by show I 12 g = I 57 g; rw [y1, y2], hdec⟩
  have hz0 : ¬ nI k = (0 : Int32) := fun q => k0 ((nI_eq (b := 0) hk (by decide)).mp q)
  rw [if_neg hz0]
  rw [if_neg hz0] at hR
  by_cases k1' : k = 1
  · subst k1'
    rw [if_pos (by decide), if_pos (inb_nI (by omega) (by decide)), clampI (by omega)]
    refine tot_some.mpr ?_
    show tot (fX10_table n (nI g) (nI 1) I J) _
    rw [if_pos (by decide)] at hR
    rw [hR]
    exact tot_some.mpr ⟨by show I 13 g = I 58 g; rw [y4, y5], hdec⟩
  have hz1 : ¬ nI k = (1 : Int32) := fun q => k1' ((nI_eq (b := 1) hk (by decide)).mp q)
  rw [if_neg hz1]
  rw [if_neg hz1] at hR
  have e2 : nI k - 2 = nI (k - 2) := pk_sub (a := k) (b := 2) (by omega)
  rw [e2] at hR ⊢
  unfold fX7_letter
  rw [if_pos (inb_nI (by omega) (by decide)), clampI (by omega), y1]
  rw [y2] at hR
  have hp4 := hcone.2
  generalize hN : ct_pop 32 ((K g).2 0) = N at *
  by_cases hkN : N ≤ k - 2
  · rw [if_pos (nI_le hkN (by omega))]
    rw [if_pos (nI_le hkN (by omega))] at hR
    refine tot_some.mpr ?_
    show tot (fX10_table n (nI g) (nI k) I J) _
    rw [hR]
    exact tot_some.mpr ⟨rfl, hdec⟩
  · have e4 : nI g * 4 + nI (k - 2) = nI (4 * g + (k - 2)) := by rw [show (4 : Int32) = nI 4 from rfl, pk_mul, nI_add, Nat.mul_comm]
    have e4' : (4 : Int32) * nI g + nI k - 2 = nI (4 * g + (k - 2)) := by
      rw [show (4 : Int32) = nI 4 from rfl, pk_mul, nI_add]
      have : nI (4 * g + k) - nI 2 = nI (4 * g + k - 2) := pk_sub (by omega)
      rw [show (2 : Int32) = nI 2 from rfl, this]
      congr 1
      omega
    rw [if_neg (nI_ge (by omega) (by omega)), e4, if_pos (inb_nI (by omega) (by decide)), clampI (by omega)]
    rw [if_neg (nI_ge (by omega) (by omega)), e4', if_pos (inb_nI (by omega) (by decide)), clampI (by omega)] at hR
    simp only [Option.bind_some]
    refine tot_some.mpr ?_
    show tot (fX10_table n (nI g) (nI k) I J) _
    rw [hR]
    have hpg : ct_pop g ((K g).2 0) = N := by rw [← hN]; exact (ct_pop_ext hcone.1 32 (by omega)).symm
    obtain ⟨l, l1, l2, l3⟩ := ct_pop_at ((K g).2 0) g (k - 2) (by omega)
    obtain ⟨q1, q2⟩ := y3 l l1 l2
    rw [l3] at q1 q2
    exact tot_some.mpr ⟨by show I 14 _ = I 56 _; rw [q1, q2], hdec⟩
