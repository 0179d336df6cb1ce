/-! tables, table -/
theorem tb_clear (n : Nat) {c : Nat} (hc : c ≤ 32) (I0 : MI) (J : MJ) (h6 : I0 44 6 = nI c) : ∀ q j I, j ≤ c → c < q + j → (∀ a, a ≠ 55 → I a = I0 a) → (∀ i, i < j → I 55 i = 0) → ∃ I', lX10_tables_6 n q (nI j) I J = lX10_tables_29 n n 0 I' J ∧ (∀ a, a ≠ 55 → I' a = I0 a) ∧ ∀ i, i < c → I' 55 i = 0 := by
  intro q
  induction q with
  | zero => intro j I h1 h2; omega
  | succ q ih =>
    intro j I h1 h2 f1 f2
    have e : lX10_tables_6 n (q + 1) (nI j) I J = fX10_tables_6 n (lX10_tables_6 n q) (nI j) I J := rfl
    rw [e]
    unfold fX10_tables_6
    rw [f1 44 (by decide), h6]
    by_cases hj : j = c
    · subst hj
      rw [if_pos (Int32.le_refl _)]
      exact ⟨I, rfl, f1, f2⟩
    · rw [if_neg (nI_ge (by omega) (by omega)), if_pos (inb_nI (by omega) (by decide)), clampI (by omega), nI_1]
      refine ih (j + 1) _ (by omega) (by omega) (fun a ha => ?_) (fun i hi => ?_)
      · rw [upM_ne a ha]; exact f1 a ha
      · rw [upM_get, if_pos rfl]
        by_cases hij : i = j
        · rw [if_pos hij]; decide
        · rw [if_neg hij]; exact f2 i (by omega)
theorem tb_outs (n : Nat) {c no : Nat} (hc : c ≤ 32) (hno : no ≤ 8) (I0 : MI) (J : MJ) (h9 : I0 44 9 = nI no) (houts : ∀ k, k < no → I0 50 k = I0 6 k ∧ ∃ o, o < c ∧ I0 6 k = nI o) (h45 : ∀ g, g < c → I0 45 g = I0 2 g) : ∀ q j I, j ≤ no → no < q + j → (∀ a, a ≠ 55 → I a = I0 a) → (∀ i, i < c → (I 55 i = 0 ∨ I 55 i = 1) ∧ (I 55 i = 1 ↔ I0 2 i = 2 ∧ ∃ k, k < j ∧ I0 6 k = nI i)) → ∃ I', lX10_tables_29 n q (nI j) I J = lX10_tables_76 n n 0 I' J ∧ (∀ a, a ≠ 55 → I' a = I0 a) ∧ ∀ i, i < c → (I' 55 i = 0 ∨ I' 55 i = 1) ∧ (I' 55 i = 1 ↔ I0 2 i = 2 ∧ ∃ k, k < no ∧ I0 6 k = nI i) := by
  intro q
  induction q with
  | zero => intro j I h1 h2; omega
  | succ q ih =>
    intro j I h1 h2 f1 f2
    have e : lX10_tables_29 n (q + 1) (nI j) I J = fX10_tables_29 n (lX10_tables_29 n q) (nI j) I J := rfl
    rw [e]
    unfold fX10_tables_29 fX10_tables_67
    rw [f1 44 (by decide), h9]
    by_cases hj : j = no
    · subst hj
      rw [if_pos (Int32.le_refl _)]
      exact ⟨I, rfl, f1, f2⟩
    · obtain ⟨e50, o, ho, e6⟩ := houts j (by omega)
      rw [if_neg (nI_ge (by omega) (by omega)), if_pos (inb_nI (by omega) (by decide)), if_pos (inb_nI (by omega) (by decide)), clampI (by omega), f1 50 (by decide), e50, e6, if_pos (inb_nI (by omega) (by decide)), clampI (by omega), f1 45 (by decide), h45 o ho, nI_1]
      have put : ∀ w : Bool, (w = true ↔ I0 2 o = 2) → ∃ I', (if inb (nI o) 32 = true then lt (upM I 55 o (bz (bi w))) fun I67 => lX10_tables_29 n q (nI (j + 1)) I67 J else none) = lX10_tables_76 n n 0 I' J ∧ (∀ a, a ≠ 55 → I' a = I0 a) ∧ ∀ i, i < c → (I' 55 i = 0 ∨ I' 55 i = 1) ∧ (I' 55 i = 1 ↔ I0 2 i = 2 ∧ ∃ k, k < no ∧ I0 6 k = nI i) := by
        intro w hw
        rw [if_pos (inb_nI (by omega) (by decide)), bi_z]
        refine ih (j + 1) _ (by omega) (by omega) (fun a ha => ?_) (fun i hi => ?_)
        · rw [upM_ne a ha]; exact f1 a ha
        · rw [upM_get, if_pos rfl]
          by_cases hio : i = o
          · rw [if_pos hio, hio]
            have : bi w = 1 ↔ w = true := by cases w <;> decide
            refine ⟨by cases w <;> decide, this.trans (hw.trans ⟨fun z => ⟨z, j, by omega, e6⟩, fun z => z.1⟩)⟩
          · rw [if_neg hio]
            obtain ⟨p1, p2⟩ := f2 i hi
            refine ⟨p1, p2.trans ⟨?_, ?_⟩⟩
            · rintro ⟨z1, k, z2, z3⟩; exact ⟨z1, k, by omega, z3⟩
            · rintro ⟨z1, k, z2, z3⟩
              by_cases hkj : k = j
              · rw [hkj, e6] at z3
                exact absurd ((nI_eq (by omega) (by omega)).mp z3).symm hio
              · exact ⟨z1, k, by omega, z3⟩
      by_cases hs : I0 2 o = 2
      · rw [if_pos hs]
        exact put true ⟨fun _ => hs, fun _ => rfl⟩
      · rw [if_neg hs]
        exact put false ⟨fun z => absurd z (by decide), fun z => absurd z hs⟩
theorem tb_keep (n : Nat) {c no : Nat} (hc : c ≤ 32) (I0 : MI) (J : MJ) (h6 : I0 44 6 = nI c) (hcell : ∀ g, g < c → I0 45 g = I0 2 g ∧ I0 46 g = I0 3 g) (hk : ∀ j, j < c → I0 2 j = 1 → ∃ o, o < c ∧ I0 3 j = nI o) : ∀ q j I, j ≤ c → c < q + j → (∀ a, a ≠ 55 → I a = I0 a) → (∀ i, i < c → (I 55 i = 0 ∨ I 55 i = 1) ∧ (I 55 i = 1 ↔ I0 2 i = 2 ∧ ((∃ k, k < no ∧ I0 6 k = nI i) ∨ ∃ z, z < j ∧ I0 2 z = 1 ∧ I0 3 z = nI i))) → ∃ I', lX10_tables_76 n q (nI j) I J = lX10_tables_136 n n 0 (if c = 0 then -1 else nI (c - 1)) I' J ∧ (∀ a, a ≠ 55 → I' a = I0 a) ∧ ∀ i, i < c → (I' 55 i = 0 ∨ I' 55 i = 1) ∧ (I' 55 i = 1 ↔ tw0 c no (I0 2) (I0 3) (I0 6) i) := by
  intro q
  induction q with
  | zero => intro j I h1 h2; omega
  | succ q ih =>
    intro j I h1 h2 f1 f2
    have e : lX10_tables_76 n (q + 1) (nI j) I J = fX10_tables_76 n (lX10_tables_76 n q) (nI j) I J := rfl
    rw [e]
    unfold fX10_tables_76 fX10_tables_121
    rw [f1 44 (by decide), h6]
    by_cases hj : j = c
    · subst hj
      rw [if_pos (Int32.le_refl _), Int32.sub_eq_add_neg, dn_1]
      refine ⟨I, rfl, f1, fun i hi => ?_⟩
      obtain ⟨p1, p2⟩ := f2 i hi
      exact ⟨p1, p2.trans ⟨fun z => ⟨hi, z⟩, fun z => z.2⟩⟩
    · obtain ⟨c45, c46⟩ := hcell j (by omega)
      rw [if_neg (nI_ge (by omega) (by omega)), if_pos (inb_nI (by omega) (by decide)), clampI (by omega), f1 45 (by decide), f1 46 (by decide), c45, c46, nI_1]
      have same : (∀ o, o < c → I0 2 j = 1 → I0 3 j = nI o → ¬ I0 2 o = 2) → ∀ i, i < c → (I 55 i = 0 ∨ I 55 i = 1) ∧ (I 55 i = 1 ↔ I0 2 i = 2 ∧ ((∃ k, k < no ∧ I0 6 k = nI i) ∨ ∃ z, z < j + 1 ∧ I0 2 z = 1 ∧ I0 3 z = nI i)) := by
        intro hno' i hi
        obtain ⟨p1, p2⟩ := f2 i hi
        refine ⟨p1, p2.trans ⟨?_, ?_⟩⟩
        · rintro ⟨z1, z2 | ⟨z, z2, z3⟩⟩
          · exact ⟨z1, Or.inl z2⟩
          · exact ⟨z1, Or.inr ⟨z, by omega, z3⟩⟩
        · rintro ⟨z1, z2 | ⟨z, z2, z3, z4⟩⟩
          · exact ⟨z1, Or.inl z2⟩
          · by_cases hzj : z = j
            · subst hzj
              exact absurd z1 (hno' i hi z3 z4)
            · exact ⟨z1, Or.inr ⟨z, by omega, z3, z4⟩⟩
      by_cases hs : I0 2 j = 1
      · obtain ⟨o, ho, e3⟩ := hk j (by omega) hs
        rw [if_pos hs, if_pos (inb_nI (by omega) (by decide)), e3, if_pos (inb_nI (by omega) (by decide)), clampI (by omega), (hcell o ho).1]
        by_cases hs2 : I0 2 o = 2
        · rw [if_pos hs2, if_pos (inb_nI (by omega) (by decide)), if_pos (inb_nI (by omega) (by decide))]
          refine ih (j + 1) _ (by omega) (by omega) (fun a ha => ?_) (fun i hi => ?_)
          · rw [upM_ne a ha]; exact f1 a ha
          · rw [upM_get, if_pos rfl]
            by_cases hio : i = o
            · rw [if_pos hio, hio]
              exact ⟨Or.inr (by decide), fun _ => ⟨hs2, Or.inr ⟨j, by omega, hs, e3⟩⟩, fun _ => by decide⟩
            · rw [if_neg hio]
              obtain ⟨p1, p2⟩ := f2 i hi
              refine ⟨p1, p2.trans ⟨?_, ?_⟩⟩
              · rintro ⟨z1, z2 | ⟨z, z2, z3⟩⟩
                · exact ⟨z1, Or.inl z2⟩
                · exact ⟨z1, Or.inr ⟨z, by omega, z3⟩⟩
              · rintro ⟨z1, z2 | ⟨z, z2, z3, z4⟩⟩
                · exact ⟨z1, Or.inl z2⟩
                · by_cases hzj : z = j
                  · rw [hzj, e3] at z4
                    exact absurd ((nI_eq (by omega) (by omega)).mp z4).symm hio
                  · exact ⟨z1, Or.inr ⟨z, by omega, z3, z4⟩⟩
        · rw [if_neg hs2]
          refine ih (j + 1) I (by omega) (by omega) f1 (same (fun o' ho' _ e3' => ?_))
          have := (nI_eq (by omega) (by omega)).mp (e3.symm.trans e3')
          rw [← this]
          exact hs2
      · rw [if_neg hs]
        exact ih (j + 1) I (by omega) (by omega) f1 (same (fun _ _ z _ => absurd z hs))
/-- the reference's tables -/
theorem tables_ref (n : Nat) (hn : 2400 < n) {c ni nk no : Nat} {I0 : MI} {J : MJ} (pn : PN c ni nk no I0) {K : Nat → Cuts} {D : Nat → Nat} {W : Nat → Bool} {V : Nat → Nat → Nat → Bool} (k1 : ∀ g, g < c → kOk K D I0 g) (k3 : ∀ g, g < c → krOk K D I0 g) (hK : ∀ g, g < c → I0 2 g = 2 → (K g).2 0 < 2 ^ g) (hW : ∀ i, W i = true ↔ tw c no K (I0 2) (I0 3) (I0 6) c i) (hV : ∀ g, g < c → W g = true → valOk I0 g ((K g).2 0) (V g)) : ∃ I', lX10_tables_6 n n 0 I0 J = some (nI (ct_cr W c c), I', J) ∧ (∀ a, a ≠ 55 → a ≠ 56 → a ≠ 57 → a ≠ 58 → a ≠ 59 → a ≠ 44 → I' a = I0 a) ∧ (∀ j, j ≠ 11 → I' 44 j = I0 44 j) ∧ I' 44 11 = 1 ∧ (∀ i, i < c → I' 55 i = if W i = true then 1 else 0) ∧ ∀ g, g < c → W g = true → rfTab K V I' g := by
  obtain ⟨⟨hc, hni, hnk, hno⟩, ⟨e5, e6, e1, e2, e3, e4, e7, e8⟩, pcell, pouts, pg, pfi, p49, p49'⟩ := id pn
  have hkk : ∀ j, j < c → I0 2 j = 1 → ∃ o, o < c ∧ I0 3 j = nI o := by
    intro j hj hs
    obtain ⟨-, -, -, g | g | g⟩ := pcell j hj
    · exact absurd (g.1.symm.trans hs) (by decide)
    · exact g.2.1
    · exact absurd (g.1.symm.trans hs) (by decide)
  have hgt : ∀ g, g < c → I0 2 g = 2 → ∃ x y o, x < 2 * g ∧ y < 2 * g ∧ o < 3 ∧ I0 3 g = nI x ∧ I0 4 g = nI y ∧ I0 5 g = nI o ∧ I0 48 g = nI o := by
    intro g hg hs
    obtain ⟨-, -, -, g' | g' | g'⟩ := pcell g hg
    · exact absurd (g'.1.symm.trans hs) (by decide)
    · exact absurd (g'.1.symm.trans hs) (by decide)
    · obtain ⟨-, ⟨x, hx, ex⟩, ⟨y, hy, ey⟩, o, ho, eo, eo'⟩ := g'
      exact ⟨x, y, o, hx, hy, ho, ex, ey, eo, eo'⟩
  obtain ⟨I1, a1, a2, a3⟩ := tb_clear n hc I0 J e6 n 0 I0 (Nat.zero_le _) (by omega) (fun _ _ => rfl) (fun i hi => absurd hi (Nat.not_lt_zero _))
  obtain ⟨I2, b1, b2, b3⟩ := tb_outs n hc hno I0 J e8 pouts (fun g hg => (pcell g hg).1) n 0 I1 (Nat.zero_le _) (by omega) a2 (fun i hi => by
    rw [a3 i hi]
    exact ⟨Or.inl rfl, fun z => absurd z (by decide), fun ⟨_, k, z, _⟩ => absurd z (Nat.not_lt_zero _)⟩)
  obtain ⟨I3, c1, c2, c3⟩ := tb_keep n (no := no) hc I0 J e6 (fun g hg => ⟨(pcell g hg).1, (pcell g hg).2.1⟩) hkk n 0 I2 (Nat.zero_le _) (by omega) b2 (fun i hi => by
    obtain ⟨p1, p2⟩ := b3 i hi
    refine ⟨p1, p2.trans ⟨fun z => ⟨z.1, Or.inl z.2⟩, ?_⟩⟩
    rintro ⟨z1, z2 | ⟨z, z2, -⟩⟩
    · exact ⟨z1, z2⟩
    · exact absurd z2 (Nat.not_lt_zero _))
  have hstart : lX10_tables_6 n n 0 I0 J = lX10_tables_136 n n 0 (if c = 0 then -1 else nI (c - 1)) I3 J := (a1.trans b1).trans c1
  rw [hstart]
  have hl := tab_loop n hn (c := c) (no := no) (K := K) (D := D) (W := W) (V := V) (I0 := I0) (J := J) hc (fun g hg => ⟨(pcell g hg).1, (pcell g hg).2.1, (pcell g hg).2.2.1, fun hs => by
    obtain ⟨x, y, o, -, -, -, -, -, q1, q2⟩ := hgt g hg hs
    rw [q1, q2]⟩) k1 k3 hK hW (fun g hg hs => by
    obtain ⟨x, y, o, q1, q2, q3, q4, q5, q6, -⟩ := hgt g hg hs
    exact ⟨x, y, o, q1, q2, q3, q4, q5, q6⟩) hV n c I3 (Nat.le_refl _) (by omega) (fun a q1 _ _ _ _ => c2 a q1) (fun i hi => by
    rw [Nat.sub_self]
    exact c3 i hi) (fun g h1 h2 => by omega)
  rw [Nat.sub_self] at hl
  exact hl
