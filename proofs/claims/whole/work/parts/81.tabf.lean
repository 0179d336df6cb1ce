/-! the class finds its tables: gate by gate -/
def clTab (K : Nat → Cuts) (I0 I : MI) (g : Nat) : Prop := I 12 g = nI (ct_pop 32 ((K g).2 0)) ∧ (∀ i, i < g → ((K g).2 0).testBit i = true → I 14 (4 * g + ct_pop i ((K g).2 0)) = nI i) ∧ ∃ b V, b < 65536 ∧ I 13 g = nI b ∧ valOk I0 g ((K g).2 0) V ∧ ∀ i, i < 16 → b.testBit i = V i g
theorem find_step (n : Nat) {k20 : Int32 → MI → MJ → Option M2} {x v b : Int32} {I I1 I2 : MI} {J : MJ} (h0 : ¬ x < 0) (h1 : fX7_isTable n x I J = some (1, I, J)) (h2 : fX0_members n x 0 I J = some (v, I, J)) (h3 : fX7_takeLetters n x v (upM I 11 6 (I 11 6 ||| (v &&& I 1 9))) J = some (I1, J)) (h4 : fX7_reckonBits n x v I1 J = some (b, I2, J)) (h5 : inb x 32 = true) : fX7_find_20 n k20 x I J = k20 (x + -1) (upM (upM I2 13 x.toNatClampNeg b) 11 1 (upM I2 13 x.toNatClampNeg b 11 1 + 1)) J := by
  unfold fX7_find_20 fX7_find_87
  rw [if_neg h0, h1]
  simp only [Option.bind_some]
  rw [if_neg (by decide), h2]
  simp only [Option.bind_some, lt]
  rw [h3]
  simp only [Option.bind_some]
  rw [h4]
  simp only [Option.bind_some]
  rw [if_pos h5]
theorem find_skip (n : Nat) {k20 : Int32 → MI → MJ → Option M2} {x : Int32} {I : MI} {J : MJ} (h0 : ¬ x < 0) (h1 : fX7_isTable n x I J = some (0, I, J)) : fX7_find_20 n k20 x I J = k20 (x + -1) I J := by
  unfold fX7_find_20 fX7_find_87
  rw [if_neg h0, h1]
  simp only [Option.bind_some, if_true]
theorem members_eq (n : Nat) {K : Nat → Cuts} {D : Nat → Nat} {I : MI} {J : MJ} {g : Nat} (hg : g < 32) (hk : J 10 (40 * g) = lN (ct_rk g D ((K g).2 0))) (hs : (K g).2 0 < 4294967296) : fX0_members n (nI g) 0 I J = some (nI ((K g).2 0), I, J) := by
  unfold fX0_members
  have e : nI g * 40 + 0 = nI (40 * g) := by
    rw [show (40 : Int32) = nI 40 from rfl, show (0 : Int32) = nI 0 from rfl, pk_mul, nI_add, Nat.mul_comm]
    rfl
  rw [e, if_pos (inb_nI (by omega) (by decide)), clampI (by omega), hk, lN_i, nI_mod, rk_mod hs]
theorem dn_1 (g : Nat) : nI g + -1 = (if g = 0 then (-1 : Int32) else nI (g - 1)) := by
  by_cases h : g = 0
  · rw [if_pos h, h]; decide
  · obtain ⟨k, rfl⟩ : ∃ k, g = k + 1 := ⟨g - 1, by omega⟩
    rw [if_neg h, pk_m1]
    rfl
theorem find_loop (n : Nat) (hn : 2400 < n) {c no : Nat} {K : Nat → Cuts} {D : Nat → Nat} {W : Nat → Bool} {I0 : MI} {J : MJ} (hc : c ≤ 32) (h9 : ∀ i, i < 32 → bt (I0 1 9) i = decide (i < c ∧ I0 2 i = 2)) (k1 : ∀ g, g < c → kOk K D I0 g) (k2 : ∀ g, g < c → kcOk K D I0 J g) (hK : ∀ g, g < c → I0 2 g = 2 → (K g).2 0 < 2 ^ g) (hW : ∀ i, W i = true ↔ tw c no K (I0 2) (I0 3) (I0 6) c i) (hin : ∀ g, g < c → gateIn I0 g) : ∀ q r I, r ≤ c → r < q → (∀ a, a ≠ 11 → a ≠ 12 → a ≠ 13 → a ≠ 14 → a ≠ 15 → I a = I0 a) → (∀ i, i < 32 → (bt (I 11 6) i = true ↔ tw c no K (I0 2) (I0 3) (I0 6) (c - r) i)) → I 11 1 = nI (ct_cr W c (c - r)) → (∀ g, r ≤ g → g < c → W g = true → clTab K I0 I g) → ∃ I', lX7_find_20 n q (if r = 0 then -1 else nI (r - 1)) I J = some (I', J) ∧ (∀ a, a ≠ 11 → a ≠ 12 → a ≠ 13 → a ≠ 14 → a ≠ 15 → I' a = I0 a) ∧ I' 11 0 = 1 ∧ (∀ i, i < 32 → (bt (I' 11 6) i = true ↔ W i = true)) ∧ I' 11 1 = nI (ct_cr W c c) ∧ ∀ g, g < c → W g = true → clTab K I0 I' g := by
  have hwf := kOk_wf hc k1
  intro q
  induction q with
  | zero => intro r I h1 h2; omega
  | succ q ih =>
    intro r I h1 h2 f1 f2 f3 f4
    have e : ∀ x, lX7_find_20 n (q + 1) x I J = fX7_find_20 n (lX7_find_20 n q) x I J := fun _ => rfl
    rw [e]
    by_cases hr : r = 0
    · subst hr
      rw [if_pos rfl]
      unfold fX7_find_20
      rw [if_pos (by decide)]
      refine ⟨_, rfl, fun a q1 q2 q3 q4 q5 => ?_, ?_, fun i hi => ?_, ?_, fun g hg hw => ?_⟩
      · rw [upM_ne a q1]; exact f1 a q1 q2 q3 q4 q5
      · rw [upM_get, if_pos rfl, if_pos rfl]
      · rw [upM_get, if_pos rfl, if_neg (by decide), f2 i hi, hW]; rfl
      · rw [upM_get, if_pos rfl, if_neg (by decide), f3]; rfl
      · have := f4 g (Nat.zero_le _) hg hw
        unfold clTab at this ⊢
        rw [upM_ne 12 (by decide), upM_ne 13 (by decide), upM_ne 14 (by decide)]
        exact this
    · obtain ⟨g, rfl⟩ : ∃ g, r = g + 1 := ⟨r - 1, by omega⟩
      have hg : g < c := by omega
      rw [if_neg hr, Nat.add_sub_cancel]
      have ek : c - 1 - (c - (g + 1)) = g := by omega
      have ec : c - g = (c - (g + 1)) + 1 := by omega
      have hWg := tw_at hK hW (k := c - (g + 1)) (by omega)
      rw [ek] at hWg
      have hst : ∀ i, tw c no K (I0 2) (I0 3) (I0 6) (c - g) i ↔ (tw c no K (I0 2) (I0 3) (I0 6) (c - (g + 1)) i ∨ (tw c no K (I0 2) (I0 3) (I0 6) (c - (g + 1)) g ∧ ((K g).2 0).testBit i = true ∧ I0 2 i = 2)) := by
        intro i
        rw [ec]
        show (_ ∨ (tw c no K (I0 2) (I0 3) (I0 6) (c - (g + 1)) (c - 1 - (c - (g + 1))) ∧ ((K (c - 1 - (c - (g + 1)))).2 0).testBit i = true ∧ I0 2 i = 2)) ↔ _
        rw [ek]
      have hcr : ct_cr W c (c - g) = (if W g = true then ct_cr W c (c - (g + 1)) + 1 else ct_cr W c (c - (g + 1))) := by
        rw [ec]
        show (if W (c - 1 - (c - (g + 1))) = true then _ else _) = _
        rw [ek]
      have hiT : fX7_isTable n (nI g) I J = some (b2 (bt (I 11 6) g = true), I, J) := isTable_eq n (by omega) I J
      by_cases hw : W g = true
      · have htw := hWg.mp hw
        rw [b2_t ((f2 g (by omega)).mpr htw)] at hiT
        rcases k1 g hg with ⟨z1, -, -⟩ | ⟨z1, -⟩
        · exact absurd (tw_lt hK (c - (g + 1)) (by omega) g htw).2 z1
        have w1 := (hwf g hg).2.2 z1
        have wok := (hwf g hg).1
        have hs := hK g hg z1
        have hs32 := ct_lt32 (show g ≤ 32 by omega) hs
        have h4 := (wok.2.2 0 (by omega)).2
        have hm := members_eq n (K := K) (D := D) (I := I) (J := J) (g := g) (by omega) ((k2 g hg).2.2 0 (by omega)) hs32
        generalize hS : (K g).2 0 = s at *
        obtain ⟨I1, t1, t2, t3, t4, t5, t6⟩ := takeL_ok n hn (g := g) (s := s) (by omega) hs h4 (upM I 11 6 (I 11 6 ||| (nI s &&& I 1 9))) J
        have e15 : ∀ a, a ≠ 11 → a ≠ 12 → a ≠ 13 → a ≠ 14 → a ≠ 15 → I1 a = I0 a := fun a q1 q2 q3 q4 q5 => by rw [t2 a q2 q4, upM_ne a q1]; exact f1 a q1 q2 q3 q4 q5
        have hin1 : ∀ z, z ≤ g → gateIn I1 z := by
          intro z hz
          unfold gateIn
          rw [e15 2 (by decide) (by decide) (by decide) (by decide) (by decide), e15 3 (by decide) (by decide) (by decide) (by decide) (by decide), e15 4 (by decide) (by decide) (by decide) (by decide) (by decide), e15 5 (by decide) (by decide) (by decide) (by decide) (by decide)]
          exact hin z (by omega)
        obtain ⟨b, I2, V, r1, r2, r3, r4, r5⟩ := reckonBits_ok n hn (g := g) (s := s) (by omega) hs h4 I1 J hin1
        have hstep := find_step n (k20 := lX7_find_20 n q) (nI_pos (by omega)) hiT hm t1 r1 (inb_nI (by omega) (by decide))
        rw [hstep, clampI (by omega), dn_1]
        have c12 : ∀ z, upM (upM I2 13 g (nI b)) 11 1 (upM I2 13 g (nI b) 11 1 + 1) 12 z = I1 12 z := fun z => by rw [upM_ne 12 (by decide), upM_ne 12 (by decide), r3 12 (by decide)]
        have c14 : ∀ z, upM (upM I2 13 g (nI b)) 11 1 (upM I2 13 g (nI b) 11 1 + 1) 14 z = I1 14 z := fun z => by rw [upM_ne 14 (by decide), upM_ne 14 (by decide), r3 14 (by decide)]
        have c13 : ∀ z, upM (upM I2 13 g (nI b)) 11 1 (upM I2 13 g (nI b) 11 1 + 1) 13 z = if z = g then nI b else I 13 z := fun z => by rw [upM_ne 13 (by decide), upM_get, if_pos rfl, r3 13 (by decide), t2 13 (by decide) (by decide), upM_ne 13 (by decide)]
        have c11 : ∀ z, z ≠ 1 → upM (upM I2 13 g (nI b)) 11 1 (upM I2 13 g (nI b) 11 1 + 1) 11 z = if z = 6 then (I 11 6 ||| (nI s &&& I 1 9)) else I 11 z := fun z hz => by rw [upM_get, if_pos rfl, if_neg hz, upM_ne 11 (by decide), r3 11 (by decide), t2 11 (by decide) (by decide), upM_get, if_pos rfl]
        have c111 : upM (upM I2 13 g (nI b)) 11 1 (upM I2 13 g (nI b) 11 1 + 1) 11 1 = I 11 1 + 1 := by rw [upM_get, if_pos rfl, if_pos rfl, upM_ne 11 (by decide), r3 11 (by decide), t2 11 (by decide) (by decide), upM_get, if_pos rfl, if_neg (by decide)]
        refine ih g _ (by omega) (by omega) (fun a q1 q2 q3 q4 q5 => ?_) (fun i hi => ?_) ?_ (fun g' hg1 hg2 hw' => ?_)
        · rw [upM_ne a q1, upM_ne a q3, r3 a q5]; exact e15 a q1 q2 q3 q4 q5
        · rw [c11 6 (by decide), if_pos rfl, b_or, b_and, bt_n hi, f1 1 (by decide) (by decide) (by decide) (by decide) (by decide), h9 i hi, hst i]
          simp only [Bool.or_eq_true, Bool.and_eq_true, decide_eq_true_eq, f2 i hi, hS]
          constructor
          · rintro (p | ⟨p1, p2, p3⟩)
            · exact Or.inl p
            · exact Or.inr ⟨htw, p1, p3⟩
          · rintro (p | ⟨p1, p2, p3⟩)
            · exact Or.inl p
            · refine Or.inr ⟨p2, ?_, p3⟩
              by_cases hic : i < c
              · exact hic
              · rw [ct_tb hs (by omega)] at p2
                cases p2
        · rw [c111, f3, hcr, if_pos hw, nI_1]
        · by_cases hgg : g' = g
          · subst hgg
            refine ⟨?_, fun i hi hb => ?_, b, V, r2, ?_, ?_, r5⟩
            · rw [c12, t4, hS]
            · rw [hS] at hb
              rw [c14, hS]; exact t6 i hi hb
            · rw [c13, if_pos rfl]
            · rw [hS]
              intro i hi z hz
              rw [r4 i hi z hz]
              exact valR_fr (fun a ha => by
                simp only [List.mem_cons, List.not_mem_nil, or_false] at ha
                exact e15 a (by omega) (by omega) (by omega) (by omega) (by omega))
          · obtain ⟨y1, y2, b', V', y3, y4, y5, y6⟩ := f4 g' (by omega) hg2 hw'
            have hg'4 := ((hwf g' hg2).1)
            refine ⟨?_, fun i hi hb => ?_, b', V', y3, ?_, y5, y6⟩
            · rw [c12, t3 g' hgg, upM_ne 12 (by decide)]; exact y1
            · rw [c14, t5 _ (by omega), upM_ne 14 (by decide)]; exact y2 i hi hb
            · rw [c13, if_neg hgg]; exact y4
      · have hntw : ¬ tw c no K (I0 2) (I0 3) (I0 6) (c - (g + 1)) g := fun z => hw (hWg.mpr z)
        rw [b2_f (fun z => hntw ((f2 g (by omega)).mp z))] at hiT
        rw [find_skip n (nI_pos (by omega)) hiT, dn_1]
        refine ih g I (by omega) (by omega) f1 (fun i hi => ?_) ?_ (fun g' hg1 hg2 hw' => ?_)
        · rw [f2 i hi, hst i]
          constructor
          · exact fun p => Or.inl p
          · rintro (p | ⟨p1, -⟩)
            · exact p
            · exact absurd p1 hntw
        · rw [f3, hcr, if_neg hw]
        · by_cases hgg : g' = g
          · rw [hgg] at hw'; exact absurd hw' hw
          · exact f4 g' (by omega) hg2 hw'
/-- the class's tables -/
theorem find_ok (n : Nat) (hn : 2400 < n) {c ni nk no : Nat} {I : MI} {J : MJ} (pn : PN c ni nk no I) {K : Nat → Cuts} {D : Nat → Nat} (k1 : ∀ g, g < c → kOk K D I g) (k2 : ∀ g, g < c → kcOk K D I J g) (hK : ∀ g, g < c → I 2 g = 2 → (K g).2 0 < 2 ^ g) {W : Nat → Bool} (hW : ∀ i, W i = true ↔ tw c no K (I 2) (I 3) (I 6) c i) : ∃ I', fX7_find n I J = some (I', J) ∧ (∀ a, a ≠ 11 → a ≠ 12 → a ≠ 13 → a ≠ 14 → a ≠ 15 → I' a = I a) ∧ I' 11 0 = 1 ∧ (∀ i, i < 32 → (bt (I' 11 6) i = true ↔ W i = true)) ∧ I' 11 1 = nI (ct_cr W c c) ∧ ∀ g, g < c → W g = true → clTab K I I' g := by
  obtain ⟨⟨hc, hni, hnk, hno⟩, ⟨e5, e6, e1, e2, e3, e4, e7, e8⟩, pcell, pouts, pg, pfi, p49, p49'⟩ := id pn
  obtain ⟨v, v1, v2⟩ := asked_ok n hn hc hno I J e5 e7 (fun k hk => (pouts k hk).2) (fun j hj hs => by
    obtain ⟨-, -, -, g | g | g⟩ := pcell j hj
    · exact absurd (g.1.symm.trans hs) (by decide)
    · exact g.2.1
    · exact absurd (g.1.symm.trans hs) (by decide)) pg
  unfold fX7_find
  rw [v1]
  simp only [Option.bind_some, lt]
  have e1' : upM (upM I 11 6 v) 11 1 0 1 5 - 1 = (if c = 0 then (-1 : Int32) else nI (c - 1)) := by
    rw [upM_ne 1 (by decide), upM_ne 1 (by decide), e5, ← dn_1, Int32.sub_eq_add_neg]
  rw [e1']
  refine find_loop n hn hc pg k1 k2 hK hW (fun g hg hs => ?_) n c _ (Nat.le_refl _) (by omega) (fun a q1 _ _ _ _ => by rw [upM_ne a q1, upM_ne a q1]) (fun i hi => ?_) ?_ (fun g h1 h2 => by omega)
  · obtain ⟨-, -, -, g' | g' | g'⟩ := pcell g hg
    · exact absurd (g'.1.symm.trans hs) (by decide)
    · exact absurd (g'.1.symm.trans hs) (by decide)
    · obtain ⟨-, ⟨x, hx, ex⟩, ⟨y, hy, ey⟩, o, ho, eo, -⟩ := g'
      exact ⟨x, y, o, hx, hy, ho, ex, ey, eo⟩
  · rw [upM_get, if_pos rfl, if_neg (by decide), upM_get, if_pos rfl, if_pos rfl, v2 i hi, Nat.sub_self]
    rfl
  · rw [upM_get, if_pos rfl, if_pos rfl, Nat.sub_self]
    rfl
