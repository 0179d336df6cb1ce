/-! the reference finds its tables: gate by gate -/
theorem tl_loop (n : Nat) (hn : 2400 < n) {g s : Nat} (hg : g < 32) (hs : s < 2 ^ g) (h4 : ct_pop 32 s ≤ 4) (k136 : Int32 → Int32 → MI → MJ → Option (Int32 × M2)) (x1 : Int32) (I0 : MI) (J : MJ) (h52 : I0 52 (40 * g) = nI s) : ∀ q k I, k ≤ g → g < q + k → (∀ a b, a ≠ 55 → a ≠ 56 → (a ≠ 57 ∨ b ≠ g) → I a b = I0 a b) → (∀ b, (b < 4 * g ∨ 4 * g + 4 ≤ b) → I 56 b = I0 56 b) → I 57 g = nI (ct_pop k s) → (∀ i, i < k → s.testBit i = true → I 56 (4 * g + ct_pop i s) = nI i) → (∀ i, I 55 i = if i < k ∧ s.testBit i = true ∧ I0 45 i = 2 then 1 else I0 55 i) → ∃ I', lX10_tables_164 n k136 q x1 (nI g) (nI k) I J = (fX10_findBits n (nI g) I' J).bind (fun r => k136 x1 (nI g + -1) r.1 r.2) ∧ (∀ a b, a ≠ 55 → a ≠ 56 → (a ≠ 57 ∨ b ≠ g) → I' a b = I0 a b) ∧ (∀ b, (b < 4 * g ∨ 4 * g + 4 ≤ b) → I' 56 b = I0 56 b) ∧ lettersAt I' g s ∧ (∀ i, I' 55 i = if i < g ∧ s.testBit i = true ∧ I0 45 i = 2 then 1 else I0 55 i) := by
  intro q
  induction q with
  | zero => intro k I h1 h2; omega
  | succ q ih =>
    intro k I h1 h2 f1 f2 f3 f4 f5
    have e : lX10_tables_164 n k136 (q + 1) x1 (nI g) (nI k) I J = fX10_tables_164 n k136 (lX10_tables_164 n k136 q) x1 (nI g) (nI k) I J := rfl
    rw [e]
    unfold fX10_tables_164 fX10_tables_242 fX10_tables_231
    by_cases hk : k = g
    · subst hk
      rw [if_pos (Int32.le_refl _)]
      exact ⟨I, rfl, f1, f2, ⟨by rw [f3]; exact congrArg nI (ct_pop_ext hs 32 (by omega)).symm, f4⟩, f5⟩
    have hpk := ct_pop_mono s (a := k) 32 (by omega)
    have e40 : (40 : Int32) * nI g = nI (40 * g) := pk_mul 40 g
    rw [if_neg (nI_ge (by omega) (by omega)), e40, if_pos (inb_nI (by omega) (by decide)), clampI (by omega), f1 52 _ (by decide) (by decide) (Or.inl (by decide)), h52, ushrI_1 _ (by omega), bt_n (by omega), nI_1]
    have ep : ct_pop (k + 1) s = (if s.testBit k = true then ct_pop k s + 1 else ct_pop k s) := rfl
    by_cases hb : s.testBit k = true
    · have hp := ct_pop_lt hb (k := 32) (by omega)
      have e4 : (4 : Int32) * nI g + nI (ct_pop k s) = nI (4 * g + ct_pop k s) := by rw [show (4 : Int32) = nI 4 from rfl, pk_mul, nI_add]
      rw [if_pos hb, if_neg (by decide), if_pos (inb_nI (by omega) (by decide)), clampI (by omega), f3, e4, if_pos (inb_nI (by omega) (by decide)), clampI (by omega)]
      simp only [lt]
      rw [if_pos (inb_nI (by omega) (by decide)), if_pos (inb_nI (by omega) (by decide)), upM_ne 57 (by decide), f3, nI_1]
      rw [if_pos (inb_nI (by omega) (by decide)), clampI (by omega), upM_ne 45 (by decide), upM_ne 45 (by decide), f1 45 k (by decide) (by decide) (Or.inl (by decide))]
      rw [if_pos hb] at ep
      generalize hI1 : upM (upM I 56 (4 * g + ct_pop k s) (nI k)) 57 g (nI (ct_pop k s + 1)) = I1
      have g1 : ∀ a b, a ≠ 55 → a ≠ 56 → (a ≠ 57 ∨ b ≠ g) → I1 a b = I0 a b := by
        intro a b q1 q2 q3
        rw [← hI1, upM_get]
        by_cases h57 : a = 57
        · rw [if_pos h57, if_neg (q3.resolve_left (fun z => z h57)), upM_ne a q2]
          exact f1 a b q1 q2 q3
        · rw [if_neg h57, upM_ne a q2]
          exact f1 a b q1 q2 q3
      have g2 : ∀ b, (b < 4 * g ∨ 4 * g + 4 ≤ b) → I1 56 b = I0 56 b := by
        intro b q1
        rw [← hI1, upM_ne 56 (by decide), upM_get, if_pos rfl, if_neg (by omega)]
        exact f2 b q1
      have g3 : I1 57 g = nI (ct_pop (k + 1) s) := by
        rw [← hI1, upM_get, if_pos rfl, if_pos rfl, ep]
      have g4 : ∀ i, i < k + 1 → s.testBit i = true → I1 56 (4 * g + ct_pop i s) = nI i := by
        intro i q1 q2
        rw [← hI1, upM_ne 56 (by decide), upM_get, if_pos rfl]
        by_cases hik : i = k
        · rw [hik, if_pos rfl]
        · have := ct_pop_lt q2 (k := k) (by omega)
          rw [if_neg (by omega)]
          exact f4 i (by omega) q2
      have g5 : ∀ i, I1 55 i = I 55 i := by
        intro i
        rw [← hI1, upM_ne 55 (by decide), upM_ne 55 (by decide)]
      by_cases h45 : I0 45 k = 2
      · rw [if_pos h45, if_pos (inb_nI (by omega) (by decide))]
        refine ih (k + 1) (upM I1 55 k (bz 1)) (by omega) (by omega) (fun a b q1 q2 q3 => ?_) (fun b q1 => ?_) ?_ (fun i q1 q2 => ?_) (fun i => ?_)
        · rw [upM_ne a q1]; exact g1 a b q1 q2 q3
        · rw [upM_ne 56 (by decide)]; exact g2 b q1
        · rw [upM_ne 57 (by decide)]; exact g3
        · rw [upM_ne 56 (by decide)]; exact g4 i q1 q2
        · rw [upM_get, if_pos rfl]
          by_cases hik : i = k
          · rw [if_pos hik, if_pos ⟨by omega, by rw [hik]; exact hb, by rw [hik]; exact h45⟩]
            decide
          · rw [if_neg hik, g5, f5]
            have : (i < k + 1) ↔ i < k := by omega
            simp only [this]
      · rw [if_neg h45]
        refine ih (k + 1) I1 (by omega) (by omega) g1 g2 g3 g4 (fun i => ?_)
        rw [g5, f5]
        by_cases hik : i = k
        · rw [if_neg (fun z => by omega), if_neg (fun z => h45 (by rw [← hik]; exact z.2.2))]
        · have : (i < k + 1) ↔ i < k := by omega
          simp only [this]
    · rw [if_neg hb, if_pos rfl]
      rw [if_neg hb] at ep
      refine ih (k + 1) I (by omega) (by omega) f1 f2 (by rw [ep]; exact f3) (fun i q1 q2 => ?_) (fun i => ?_)
      · by_cases hik : i = k
        · rw [hik] at q2; exact absurd q2 hb
        · exact f4 i (by omega) q2
      · rw [f5]
        by_cases hik : i = k
        · rw [if_neg (fun z => by omega), if_neg (fun z => hb (by rw [← hik]; exact z.2.1))]
        · have : (i < k + 1) ↔ i < k := by omega
          simp only [this]
def rfTab (K : Nat → Cuts) (V : Nat → Nat → Nat → Bool) (I : MI) (g : Nat) : Prop := lettersAt I g ((K g).2 0) ∧ I 58 g = nI (vb (fun i => V g i g) 16)
theorem t136_skip (n : Nat) {k136 : Int32 → Int32 → MI → MJ → Option (Int32 × M2)} {x1 x2 : Int32} {I : MI} {J : MJ} (h0 : ¬ x2 < 0) (h1 : inb x2 32 = true) (h2 : I 55 x2.toNatClampNeg = 0) : fX10_tables_136 n k136 x1 x2 I J = k136 x1 (x2 + -1) I J := by
  unfold fX10_tables_136 fX10_tables_242
  rw [if_neg h0, if_pos h1, if_pos h2]
theorem t136_step (n : Nat) {k136 : Int32 → Int32 → MI → MJ → Option (Int32 × M2)} {x1 x2 : Int32} {I : MI} {J : MJ} (h0 : ¬ x2 < 0) (h1 : inb x2 32 = true) (h2 : ¬ I 55 x2.toNatClampNeg = 0) : fX10_tables_136 n k136 x1 x2 I J = lX10_tables_164 n k136 n (x1 + 1) x2 0 (upM I 57 x2.toNatClampNeg 0) J := by
  unfold fX10_tables_136
  rw [if_neg h0, if_pos h1, if_neg h2, if_pos h1]
  rfl
theorem tab_loop (n : Nat) (hn : 2400 < n) {c no : Nat} {K : Nat → Cuts} {D : Nat → Nat} {W : Nat → Bool} {V : Nat → Nat → Nat → Bool} {I0 : MI} {J : MJ} (hc : c ≤ 32) (hcell : ∀ g, g < c → I0 45 g = I0 2 g ∧ I0 46 g = I0 3 g ∧ I0 47 g = I0 4 g ∧ (I0 2 g = 2 → I0 48 g = I0 5 g)) (k1 : ∀ g, g < c → kOk K D I0 g) (k3 : ∀ g, g < c → krOk K D I0 g) (hK : ∀ g, g < c → I0 2 g = 2 → (K g).2 0 < 2 ^ g) (hW : ∀ i, W i = true ↔ tw c no K (I0 2) (I0 3) (I0 6) c i) (hin : ∀ g, g < c → gateIn I0 g) (hV : ∀ g, g < c → W g = true → valOk I0 g ((K g).2 0) (V g)) : ∀ q r I, r ≤ c → r < q → (∀ a, a ≠ 55 → a ≠ 56 → a ≠ 57 → a ≠ 58 → a ≠ 59 → I a = I0 a) → (∀ i, i < c → (I 55 i = 0 ∨ I 55 i = 1) ∧ (I 55 i = 1 ↔ tw c no K (I0 2) (I0 3) (I0 6) (c - r) i)) → (∀ g, r ≤ g → g < c → W g = true → rfTab K V I g) → ∃ I', lX10_tables_136 n q (nI (ct_cr W c (c - r))) (if r = 0 then -1 else nI (r - 1)) I J = some (nI (ct_cr W c c), I', J) ∧ (∀ a, a ≠ 55 → a ≠ 56 → a ≠ 57 → a ≠ 58 → a ≠ 59 → a ≠ 44 → I' a = I0 a) ∧ (∀ j, j ≠ 11 → I' 44 j = I0 44 j) ∧ I' 44 11 = 1 ∧ (∀ i, i < c → I' 55 i = if W i = true then 1 else 0) ∧ ∀ g, g < c → W g = true → rfTab K V I' g := by
  have hwf := kOk_wf hc k1
  intro q
  induction q with
  | zero => intro r I h1 h2; omega
  | succ q ih =>
    intro r I h1 h2 f1 f2 f4
    have e : ∀ y x, lX10_tables_136 n (q + 1) y x I J = fX10_tables_136 n (lX10_tables_136 n q) y x I J := fun _ _ => rfl
    rw [e]
    by_cases hr : r = 0
    · subst hr
      rw [if_pos rfl]
      unfold fX10_tables_136
      rw [if_pos (by decide)]
      refine ⟨_, rfl, fun a q1 q2 q3 q4 q5 q6 => ?_, fun j hj => ?_, ?_, fun i hi => ?_, fun g hg hw => ?_⟩
      · rw [upM_ne a q6]; exact f1 a q1 q2 q3 q4 q5
      · rw [upM_get, if_pos rfl, if_neg hj, f1 44 (by decide) (by decide) (by decide) (by decide) (by decide)]
      · rw [upM_get, if_pos rfl, if_pos rfl]
      · rw [upM_ne 55 (by decide)]
        obtain ⟨p1, p2⟩ := f2 i hi
        have p3 : I 55 i = 1 ↔ W i = true := p2.trans (hW i).symm
        by_cases hw : W i = true
        · rw [if_pos hw]; exact p3.mpr hw
        · rw [if_neg hw]; exact p1.resolve_right (fun z => hw (p3.mp z))
      · have := f4 g (Nat.zero_le _) hg hw
        unfold rfTab lettersAt at this ⊢
        rw [upM_ne 56 (by decide), upM_ne 57 (by decide), upM_ne 58 (by decide)]
        exact this
    · obtain ⟨g, rfl⟩ : ∃ g, r = g + 1 := ⟨r - 1, by omega⟩
      have hg : g < c := by omega
      rw [if_neg hr, Nat.add_sub_cancel]
      have ek : c - 1 - (c - (g + 1)) = g := by omega
      have ec : c - g = (c - (g + 1)) + 1 := by omega
      have hWg := tw_at hK hW (k := c - (g + 1)) (by omega)
      rw [ek] at hWg
      have hst : ∀ i, tw c no K (I0 2) (I0 3) (I0 6) (c - g) i ↔ (tw c no K (I0 2) (I0 3) (I0 6) (c - (g + 1)) i ∨ (tw c no K (I0 2) (I0 3) (I0 6) (c - (g + 1)) g ∧ ((K g).2 0).testBit i = true ∧ I0 2 i = 2)) := by
        intro i
        rw [ec]
        show (_ ∨ (tw c no K (I0 2) (I0 3) (I0 6) (c - (g + 1)) (c - 1 - (c - (g + 1))) ∧ ((K (c - 1 - (c - (g + 1)))).2 0).testBit i = true ∧ I0 2 i = 2)) ↔ _
        rw [ek]
      have hcr : ct_cr W c (c - g) = (if W g = true then ct_cr W c (c - (g + 1)) + 1 else ct_cr W c (c - (g + 1))) := by
        rw [ec]
        show (if W (c - 1 - (c - (g + 1))) = true then _ else _) = _
        rw [ek]
      have i55 : I 55 (nI g).toNatClampNeg = I 55 g := by rw [clampI (by omega)]
      by_cases hw : W g = true
      · have htw := hWg.mp hw
        rcases k1 g hg with ⟨z1, -, -⟩ | ⟨z1, -⟩
        · exact absurd (tw_lt hK (c - (g + 1)) (by omega) g htw).2 z1
        have w1 := (hwf g hg).2.2 z1
        have h4 := ((hwf g hg).1.2.2 0 (by omega)).2
        have hs := hK g hg z1
        have e1 : I 55 g = 1 := (f2 g hg).2.mpr htw
        rw [t136_step n (nI_pos (by omega)) (inb_nI (by omega) (by decide)) (by rw [i55, e1]; decide), clampI (by omega), nI_1]
        have h52 : upM I 57 g 0 52 (40 * g) = nI ((K g).2 0) := by
          rw [upM_ne 52 (by decide), f1 52 (by decide) (by decide) (by decide) (by decide) (by decide)]
          exact (k3 g hg).2.2 0 (by omega)
        obtain ⟨I1, t1, t2, t3, t4, t5⟩ := tl_loop n hn (g := g) (s := (K g).2 0) (by omega) hs h4 (lX10_tables_136 n q) (nI (ct_cr W c (c - (g + 1)) + 1)) (upM I 57 g 0) J h52 n 0 (upM I 57 g 0) (Nat.zero_le _) (by omega) (fun _ _ _ _ _ => rfl) (fun _ _ => rfl) (by rw [upM_get, if_pos rfl, if_pos rfl]; rfl) (fun i hi => absurd hi (Nat.not_lt_zero _)) (fun i => by rw [if_neg (fun z => absurd z.1 (Nat.not_lt_zero _))])
        have t1' : lX10_tables_164 n (lX10_tables_136 n q) n (nI (ct_cr W c (c - (g + 1)) + 1)) (nI g) 0 (upM I 57 g 0) J = _ := t1
        rw [t1']
        have fr1 : ∀ a, a ≠ 55 → a ≠ 56 → a ≠ 57 → a ≠ 58 → a ≠ 59 → I1 a = I0 a := by
          intro a q1 q2 q3 q4 q5
          funext b
          rw [t2 a b q1 q2 (Or.inl q3), upM_ne a q3, f1 a q1 q2 q3 q4 q5]
        have hcell' : ∀ z, z ≤ g → I1 45 z = I1 2 z ∧ I1 46 z = I1 3 z ∧ I1 47 z = I1 4 z ∧ (I1 2 z = 2 → I1 48 z = I1 5 z) := by
          intro z hz
          rw [fr1 45 (by decide) (by decide) (by decide) (by decide) (by decide), fr1 46 (by decide) (by decide) (by decide) (by decide) (by decide), fr1 47 (by decide) (by decide) (by decide) (by decide) (by decide), fr1 48 (by decide) (by decide) (by decide) (by decide) (by decide), fr1 2 (by decide) (by decide) (by decide) (by decide) (by decide), fr1 3 (by decide) (by decide) (by decide) (by decide) (by decide), fr1 4 (by decide) (by decide) (by decide) (by decide) (by decide), fr1 5 (by decide) (by decide) (by decide) (by decide) (by decide)]
          exact hcell z (by omega)
        have hin' : ∀ z, z ≤ g → gateIn I1 z := by
          intro z hz
          unfold gateIn
          rw [fr1 2 (by decide) (by decide) (by decide) (by decide) (by decide), fr1 3 (by decide) (by decide) (by decide) (by decide) (by decide), fr1 4 (by decide) (by decide) (by decide) (by decide) (by decide), fr1 5 (by decide) (by decide) (by decide) (by decide) (by decide)]
          exact hin z (by omega)
        have hV' : valOk I1 g ((K g).2 0) (V g) := by
          intro z hz y hy
          rw [hV g hg hw z hz y hy]
          exact (valR_fr (fun a ha => by
            simp only [List.mem_cons, List.not_mem_nil, or_false] at ha
            exact fr1 a (by omega) (by omega) (by omega) (by omega) (by omega))).symm
        obtain ⟨I2, b1, b2⟩ := findBits_ok n hn (g := g) (s := (K g).2 0) (by omega) hs h4 I1 J t4 hcell' hin' hV'
        rw [b1]
        simp only [Option.bind_some]
        rw [dn_1]
        have ex : nI (ct_cr W c (c - (g + 1)) + 1) = nI (ct_cr W c (c - g)) := by rw [hcr, if_pos hw]
        rw [ex]
        refine ih g _ (by omega) (by omega) (fun a q1 q2 q3 q4 q5 => ?_) (fun i hi => ?_) (fun g' hg1 hg2 hw' => ?_)
        · rw [upM_ne a q4, b2 a q5]; exact fr1 a q1 q2 q3 q4 q5
        · rw [upM_ne 55 (by decide), b2 55 (by decide), t5 i, upM_ne 55 (by decide), upM_ne 45 (by decide), f1 45 (by decide) (by decide) (by decide) (by decide) (by decide), (hcell i hi).1, hst i]
          obtain ⟨p1, p2⟩ := f2 i hi
          by_cases hcon : i < g ∧ ((K g).2 0).testBit i = true ∧ I0 2 i = 2
          · rw [if_pos hcon]
            exact ⟨Or.inr rfl, fun _ => Or.inr ⟨htw, hcon.2⟩, fun _ => rfl⟩
          · rw [if_neg hcon]
            refine ⟨p1, fun z => Or.inl (p2.mp z), ?_⟩
            rintro (z | ⟨-, z2, z3⟩)
            · exact p2.mpr z
            · refine absurd ⟨?_, z2, z3⟩ hcon
              by_cases hig : i < g
              · exact hig
              · rw [ct_tb hs (by omega)] at z2
                cases z2
        · by_cases hgg : g' = g
          · subst hgg
            refine ⟨⟨?_, fun i hi hb => ?_⟩, ?_⟩
            · rw [upM_ne 57 (by decide), b2 57 (by decide)]; exact t4.1
            · rw [upM_ne 56 (by decide), b2 56 (by decide)]; exact t4.2 i hi hb
            · rw [upM_get, if_pos rfl, if_pos rfl]
          · obtain ⟨⟨y1, y2⟩, y3⟩ := f4 g' (by omega) hg2 hw'
            refine ⟨⟨?_, fun i hi hb => ?_⟩, ?_⟩
            · rw [upM_ne 57 (by decide), b2 57 (by decide), t2 57 g' (by decide) (by decide) (Or.inr hgg), upM_get, if_pos rfl, if_neg hgg]; exact y1
            · rw [upM_ne 56 (by decide), b2 56 (by decide), t3 _ (by omega), upM_ne 56 (by decide)]; exact y2 i hi hb
            · rw [upM_get, if_pos rfl, if_neg hgg, b2 58 (by decide), t2 58 g' (by decide) (by decide) (Or.inl (by decide)), upM_ne 58 (by decide)]; exact y3
      · have hntw : ¬ tw c no K (I0 2) (I0 3) (I0 6) (c - (g + 1)) g := fun z => hw (hWg.mpr z)
        have e0 : I 55 g = 0 := (f2 g hg).1.resolve_right (fun z => hntw ((f2 g hg).2.mp z))
        have ex : nI (ct_cr W c (c - (g + 1))) = nI (ct_cr W c (c - g)) := by rw [hcr, if_neg hw]
        rw [t136_skip n (nI_pos (by omega)) (inb_nI (by omega) (by decide)) (by rw [i55]; exact e0), dn_1, ex]
        refine ih g I (by omega) (by omega) f1 (fun i hi => ?_) (fun g' hg1 hg2 hw' => ?_)
        · obtain ⟨p1, p2⟩ := f2 i hi
          refine ⟨p1, p2.trans ?_⟩
          rw [hst i]
          constructor
          · exact fun p => Or.inl p
          · rintro (p | ⟨p1, -⟩)
            · exact p
            · exact absurd p1 hntw
        · by_cases hgg : g' = g
          · rw [hgg] at hw'; exact absurd hw' hw
          · exact f4 g' (by omega) hg2 hw'
