/-! clock -/
theorem stepNet_ok (n : Nat) (hn : 2400 < n) {c no X : Nat} (hc : c ≤ 32) (hno : no ≤ 8) (hX : X < 64) (I : MI) (J : MJ) (h5 : I 1 5 = nI c) (h8 : I 1 8 = nI no) (hsort : ∀ i, i < c → I 2 i = 0 ∨ I 2 i = 1 ∨ I 2 i = 2) (hin : ∀ i, i < c → gateIn I i) {s o : Nat → Nat} (hs : ∀ i, i < c → I 2 i = 1 → I 3 i = nI (s i) ∧ s i < c) (ho : ∀ k, k < no → I 6 k = nI (o k) ∧ o k < c) {V : Nat → Bool} (hVi : ∀ i, i < c → I 2 i = 0 → V i = X.testBit (ct_cnt (fun z => decide (I 2 z = 0)) i)) (hVk : ∀ i, i < c → I 2 i = 1 → V i = bt (I 39 i) 0) (hVg : ∀ i, i < c → I 2 i = 2 → V i = gateV I V i) : ∃ I', fX6_stepNet n (nI X) I J = some (I', J) ∧ (∀ a, a ≠ 38 → a ≠ 39 → I' a = I a) ∧ (∀ j, I' 38 j = if j = 0 then I 38 0 + 1 else if j = 1 then nI (vb (fun k => V (o k)) no) else I 38 j) ∧ ∀ i, i < c → I 2 i = 1 → I' 39 i = bi (V (s i)) := by
  obtain ⟨I1, a1, a2, a3, a4, a5⟩ := takeIn_ok n hn hc aln_39 (by decide) (by decide) hX I J h5 hsort
  obtain ⟨I2, b1, b2', b3, b4⟩ := netC_ok n hn hc I1 J (by rw [a2 1 (by decide)]; exact h5) (fun i hi => by
    have := hin i hi
    unfold gateIn at this ⊢
    rw [a2 2 (by decide), a2 3 (by decide), a2 4 (by decide), a2 5 (by decide)]
    exact this) (V := V) (fun i hi hg => by
    rw [a2 2 (by decide)] at hg
    rcases hsort i hi with z | z | z
    · rw [a3 i hi z, bt_bi, hVi i hi z]
    · rw [a5 i (fun _ => z), hVk i hi z]
    · exact absurd z hg) (fun i hi hg => by
    rw [a2 2 (by decide)] at hg
    rw [hVg i hi hg]
    unfold gateV
    rw [a2 3 (by decide), a2 4 (by decide), a2 5 (by decide)])
  have e2 : ∀ a, a ≠ 39 → I2 a = I a := fun a ha => by rw [b2' a ha]; exact a2 a ha
  have c1 := outsC_ok n hn hno aln_39 I2 J (by rw [e2 1 (by decide)]; exact h8) (o := o) (fun k hk => by
    rw [e2 6 (by decide)]
    exact ⟨(ho k hk).1, by have := (ho k hk).2; omega⟩) (f := fun k => V (o k)) (fun k hk => b3 _ (ho k hk).2)
  obtain ⟨I3, d1, d2, d3, d4⟩ := sn67_ok n hn hc (upM I2 38 1 (nI (vb (fun k => V (o k)) no))) J (by rw [upM_ne 1 (by decide), e2 1 (by decide)]; exact h5) (V := V) (fun i hi => by rw [upM_ne 39 (by decide)]; exact b3 i hi) (s := s) (fun i hi hs1 => by
    rw [upM_ne 2 (by decide), e2 2 (by decide)] at hs1
    rw [upM_ne 3 (by decide), e2 3 (by decide)]
    exact hs i hi hs1)
  refine ⟨I3, ?_, fun a q1 q2 => by rw [d2 a q1 q2, upM_ne a q1]; exact e2 a q2, fun j => ?_, fun i hi hs1 => ?_⟩
  · unfold fX6_stepNet
    rw [a1]
    simp only [Option.bind_some]
    rw [b1, c1]
    simp only [Option.bind_some, lt]
    exact d1
  · have y38 : ∀ j, upM I2 38 1 (nI (vb (fun k => V (o k)) no)) 38 j = if j = 1 then nI (vb (fun k => V (o k)) no) else I 38 j := fun j => by rw [upM_get, if_pos rfl, e2 38 (by decide)]
    rw [d3 j, y38 0, y38 j]
    rfl
  · rw [d4 i, if_pos ⟨hi, by rw [upM_ne 2 (by decide), e2 2 (by decide)]; exact hs1⟩]
theorem stepCloth_ok (n : Nat) (hn : 2400 < n) {c no X : Nat} (hc : c ≤ 32) (hno : no ≤ 8) (hX : X < 64) (I0 I : MI) (J : MJ) {L : Nat → Nat → Nat} {K : Nat → Nat} {b : Nat → Int32} (hT : clT n c I0 J L K b) (heq : ∀ a, a ≠ 38 → a ≠ 39 → I a = I0 a) (h5 : I0 1 5 = nI c) (h8 : I0 1 8 = nI no) (hsort : ∀ i, i < c → I0 2 i = 0 ∨ I0 2 i = 1 ∨ I0 2 i = 2) (h45 : ∀ i, i < c → I0 45 i = I0 2 i) (h11 : ∀ i, i < c → bt (I0 11 6) i = tabG c I0 i) {o : Nat → Nat} (ho : ∀ k, k < no → I0 6 k = nI (o k) ∧ o k < c) {U : Nat → Bool} (hUi : ∀ i, i < c → I0 2 i = 0 → U i = X.testBit (ct_cnt (fun z => decide (I0 2 z = 0)) i)) (hUk : ∀ i, i < c → I0 2 i = 1 → U i = bt (I0 40 i) 0) (hU0 : ∀ i, i < c → I0 45 i = 2 → I0 55 i = 0 → U i = false) (hU1 : ∀ i, i < c → tabG c I0 i = true → U i = clV c I0 L K b U i) : ∃ I', fX6_stepCloth n (nI X) I J = some (I', J) ∧ (∀ a, a ≠ 38 → a ≠ 40 → I' a = I a) ∧ (∀ j, I' 38 j = if j = 3 ∧ I 38 3 = -1 ∧ ¬ nI (vb (fun k => U (o k)) no) = I 38 1 then I 38 0 else if j = 2 then nI (vb (fun k => U (o k)) no) else I 38 j) ∧ ∀ i, i < c → I0 2 i = 1 → I' 40 i = bi (lv c I0 U 32 (L i 0)) := by
  have h5' : I 1 5 = nI c := by rw [heq 1 (by decide) (by decide)]; exact h5
  have e2 : I 2 = I0 2 := heq 2 (by decide) (by decide)
  have e40 : I 40 = I0 40 := heq 40 (by decide) (by decide)
  obtain ⟨I1, a1, a2, a3, a4, a5⟩ := takeIn_ok n hn hc aln_40 (by decide) (by decide) hX I J h5' (fun i hi => by rw [e2]; exact hsort i hi)
  rw [e2] at a3 a4 a5
  have ea : ∀ a, a ≠ 38 → a ≠ 39 → a ≠ 40 → I1 a = I0 a := fun a q1 q2 q3 => by rw [a2 a q3]; exact heq a q1 q2
  obtain ⟨I2, b1, b2', b3, b4⟩ := scC_ok n hn hc I0 I1 J hT (by rw [a2 1 (by decide)]; exact h5') ⟨ea 12 (by decide) (by decide) (by decide), ea 35 (by decide) (by decide) (by decide), ea 37 (by decide) (by decide) (by decide)⟩ (fun i hi => by rw [ea 11 (by decide) (by decide) (by decide)]; exact h11 i hi) hU0 hU1 (fun i hi => by
    rcases hsort i hi with z | z | z
    · rw [a3 i hi z, bt_bi, if_neg (fun q => by rw [← h45 i hi, (of_decide_eq_true q).2.1] at z; exact absurd z (by decide)), hUi i hi z]
    · rw [a5 i (fun _ => z), e40, if_neg (fun q => by rw [← h45 i hi, (of_decide_eq_true q).2.1] at z; exact absurd z (by decide)), hUk i hi z]
    · rw [a4 i hi z, b_0]
      by_cases hG : tabG c I0 i = true
      · rw [if_pos hG]
      · rw [if_neg hG]
        have z' : I0 45 i = 2 := by rw [h45 i hi]; exact z
        exact (hU0 i hi z' (Classical.byContradiction (fun q => hG (decide_eq_true ⟨hi, z', q⟩)))).symm)
  have eb : ∀ a, a ≠ 40 → I2 a = I a := fun a q => by rw [b2' a q]; exact a2 a q
  have c1 := outsC_ok n hn hno aln_40 I2 J (by rw [eb 1 (by decide), heq 1 (by decide) (by decide)]; exact h8) (o := o) (fun k hk => by
    rw [eb 6 (by decide), heq 6 (by decide) (by decide)]
    exact ⟨(ho k hk).1, by have := (ho k hk).2; omega⟩) (f := fun k => U (o k)) (fun k hk => b3 _ (ho k hk).2)
  obtain ⟨Y, hY⟩ : ∃ Y, Y = upM I2 38 2 (nI (vb (fun k => U (o k)) no)) := ⟨_, rfl⟩
  have eY : ∀ a, a ≠ 38 → a ≠ 40 → Y a = I a := fun a q1 q2 => by rw [hY, upM_ne a q1]; exact eb a q2
  have eY0 : ∀ a, a ≠ 38 → a ≠ 39 → a ≠ 40 → Y a = I0 a := fun a q1 q2 q3 => by rw [eY a q1 q3]; exact heq a q1 q2
  have Y5 : Y 1 5 = nI c := by rw [eY 1 (by decide) (by decide)]; exact h5'
  have s1 : ∀ i, i < c → Y 2 i = 1 → I0 45 i = 1 := fun i hi q => by
    rw [eY0 2 (by decide) (by decide) (by decide)] at q
    rw [h45 i hi]; exact q
  obtain ⟨I3, d1, d2, d3, d4⟩ := sc71_ok n hn hc Y J Y5 (L := fun i => L i 0) (g := fun i => lv c I0 U 32 (L i 0)) (fun i hi hs1 => (hT.1 i hi (s1 i hi hs1)).2.1 Y (eY0 35 (by decide) (by decide) (by decide)) (eY0 37 (by decide) (by decide) (by decide))) (fun i hi hs1 => by
    refine lval_ok n hc (hT.1 i hi (s1 i hi hs1)).1 Y J Y5 (fun z => ?_) (fun z => ?_)
    · unfold lv
      rw [decide_eq_false (fun q => z q.1)]; rfl
    · rw [hY, upM_ne 40 (by decide), b3 _ z]
      unfold lv
      by_cases ht : thg I0 (L i 0)
      · rw [decide_eq_true ⟨z, ht, Or.inr (by omega)⟩, Bool.true_and]
      · have t1 : I0 45 (L i 0) = 2 := Classical.byContradiction (fun y => ht (Or.inl y))
        have t2 : I0 55 (L i 0) = 0 := Classical.byContradiction (fun y => ht (Or.inr y))
        rw [hU0 _ z t1 t2, Bool.and_false])
  have y38 : ∀ j, Y 38 j = if j = 2 then nI (vb (fun k => U (o k)) no) else I 38 j := fun j => by
    rw [hY, upM_get, if_pos rfl, eb 38 (by decide)]
  refine ⟨I3, ?_, fun a q1 q2 => by rw [d2 a q1 q2]; exact eY a q1 q2, fun j => ?_, fun i hi hs1 => ?_⟩
  · unfold fX6_stepCloth
    rw [a1]
    simp only [Option.bind_some]
    rw [b1, c1]
    simp only [Option.bind_some, lt]
    rw [hY] at d1
    exact d1
  · rw [d3 j, y38 3, y38 2, y38 1, y38 0, y38 j]
    rfl
  · rw [d4 i, if_pos ⟨hi, by rw [eY0 2 (by decide) (by decide) (by decide)]; exact hs1⟩]
/-- the reference's clock behind its inputs -/
def ckE (n : Nat) (I : MI) (J : MJ) : Option (Int32 × M2) := lt (upM I 44 42 ((I 44 42) + (1 : Int32))) (fun I97 => Option.bind (fX10_clockNet n  I97 J) (fun r101 => (if (r101.1 44 14) = 0 then some ((r101.1 44 43), r101.1, r101.2) else Option.bind (fX10_clockCloth n  r101.1 r101.2) (fun r112 => (if 0 ≤ (r112.1 44 45) then some ((r112.1 44 43), r112.1, r112.2) else (if (r112.1 44 43) = (r112.1 44 44) then some ((r112.1 44 43), r112.1, r112.2) else lt (upM r112.1 44 45 (r112.1 44 42)) (fun I138 => some ((I138 44 43), I138, r112.2))))))))
theorem sh6 : ∀ x, x < 64 → ∀ j, j < 7 → (nI x >>> (nI j &&& 31)) &&& 1 = bi (x.testBit j) := by decide +kernel
theorem ckIn_ok (n : Nat) (hn : 2400 < n) {c X : Nat} (hc : c ≤ 32) (hX : X < 64) (I : MI) (J : MJ) (h6 : I 44 6 = nI c) {C : Nat → Nat} (hC : C 0 = 0) (hCs : ∀ k, k < c → C (k + 1) = if I 45 k = 0 then C k + 1 else C k) (hC6 : ∀ k, k ≤ c → C k ≤ 6) : ∃ I', lX10_clock_29 n n (nI X) 0 0 I J = ckE n I' J ∧ (∀ a, a ≠ 71 → a ≠ 72 → I' a = I a) ∧ ∀ a, (a = 71 ∨ a = 72) → ∀ i, I' a i = if i < c ∧ I 45 i = 0 then bi (X.testBit (C i)) else I a i := by
  have l : ∀ q k I1, k ≤ c → c < q + k → (∀ a, a ≠ 71 → a ≠ 72 → I1 a = I a) → (∀ a, (a = 71 ∨ a = 72) → ∀ i, I1 a i = if i < k ∧ I 45 i = 0 then bi (X.testBit (C i)) else I a i) → ∃ I', lX10_clock_29 n q (nI X) (nI (C k)) (nI k) I1 J = ckE n I' J ∧ (∀ a, a ≠ 71 → a ≠ 72 → I' a = I a) ∧ ∀ a, (a = 71 ∨ a = 72) → ∀ i, I' a i = if i < c ∧ I 45 i = 0 then bi (X.testBit (C i)) else I a i := by
    intro q
    induction q with
    | zero => intro k I1 h1 h2; omega
    | succ q ih =>
      intro k I1 h1 h2 f1 f2
      have e : lX10_clock_29 n (q + 1) (nI X) (nI (C k)) (nI k) I1 J = fX10_clock_29 n (lX10_clock_29 n q) (nI X) (nI (C k)) (nI k) I1 J := rfl
      rw [e]
      unfold fX10_clock_29 fX10_clock_68 fX10_clock_84
      by_cases hk : k = c
      · subst hk
        rw [if_pos (by rw [f1 44 (by decide) (by decide), h6]; exact Int32.le_refl _)]
        exact ⟨I1, rfl, f1, f2⟩
      have hkc : k < c := by omega
      have ik : inb (nI k) 32 = true := inb_nI (by omega) (by decide)
      have hCk := hC6 k (by omega)
      have hs := hCs k hkc
      rw [if_neg (by rw [f1 44 (by decide) (by decide), h6]; exact nI_ge (by omega) (by omega)), if_pos ik, clampI (by omega), f1 45 (by decide) (by decide), sh6 X hX (C k) (by omega), nI_1, nI_1]
      by_cases h0 : I 45 k = 0
      · rw [if_pos h0] at hs
        rw [if_pos h0]
        simp only [ik, if_true, lt]
        have put : ∀ v : Bool, v = X.testBit (C k) → ∃ I', lX10_clock_29 n q (nI X) (nI (C k + 1)) (nI (k + 1)) (upM (upM I1 71 k (bz (bi v))) 72 k (bz (upM I1 71 k (bz (bi v)) 71 k))) J = ckE n I' J ∧ (∀ a, a ≠ 71 → a ≠ 72 → I' a = I a) ∧ ∀ a, (a = 71 ∨ a = 72) → ∀ i, I' a i = if i < c ∧ I 45 i = 0 then bi (X.testBit (C i)) else I a i := by
          intro v hv
          rw [upM_get, if_pos rfl, if_pos rfl, bi_z, bi_z, ← hs]
          refine ih (k + 1) _ (by omega) (by omega) (fun a q1 q2 => by rw [upM_ne a q2, upM_ne a q1]; exact f1 a q1 q2) (fun a ha i => ?_)
          have hone : upM (upM I1 71 k (bi v)) 72 k (bi v) a i = if i = k then bi v else I1 a i := by
            rcases ha with rfl | rfl
            · rw [upM_ne 71 (by decide), upM_get, if_pos rfl]
            · rw [upM_get, if_pos rfl, upM_ne 72 (by decide)]
          rw [hone]
          by_cases hq : i = k
          · have hcon : i < k + 1 ∧ I 45 i = 0 := ⟨by omega, by rw [hq]; exact h0⟩
            rw [if_pos hq, if_pos hcon, hv, hq]
          · have : (i < k + 1) ↔ i < k := by omega
            rw [if_neg hq, f2 a ha i]
            simp only [this]
        cases hv : X.testBit (C k) with
        | true => rw [if_pos (by decide)]; exact put true hv.symm
        | false => rw [if_neg (by decide)]; exact put false hv.symm
      · rw [if_neg h0] at hs
        rw [if_neg h0, ← hs]
        refine ih (k + 1) I1 (by omega) (by omega) f1 (fun a ha i => ?_)
        rw [f2 a ha i]
        by_cases hq : i = k
        · rw [if_neg (fun z => by omega), if_neg (fun z => h0 (by rw [← hq]; exact z.2))]
        · have : (i < k + 1) ↔ i < k := by omega
          simp only [this]
  have := l n 0 I (Nat.zero_le _) (by omega) (fun _ _ _ => rfl) (fun a _ i => by rw [if_neg (fun z => absurd z.1 (Nat.not_lt_zero _))])
  rw [hC] at this
  exact this
theorem Inv_run {m : Nat} {I I' : MI} {J : MJ} (h : ∀ a, a ≠ 38 → a ≠ 39 → a ≠ 40 → a ≠ 71 → a ≠ 72 → a ≠ 73 → a ≠ 44 → I' a = I a) (h4 : ∀ j, j ≠ 42 → j ≠ 43 → j ≠ 44 → j ≠ 45 → I' 44 j = I 44 j) (hu : ∀ c, c ≤ 32 → I 44 6 = nI c → PU (m + 1) c I → PU m c I') (hI : Inv (m + 1) I J) : Inv m I' J := by
  obtain ⟨pr, pq, pf, c, ni, nk, no, pn, pu, py⟩ := hI
  have e : ∀ (l : List Nat), (∀ a ∈ l, a ≠ 38 ∧ a ≠ 39 ∧ a ≠ 40 ∧ a ≠ 71 ∧ a ≠ 72 ∧ a ≠ 73 ∧ a ≠ 44) → ∀ a ∈ l, I' a = I a := fun l hl a ha => h a (hl a ha).1 (hl a ha).2.1 (hl a ha).2.2.1 (hl a ha).2.2.2.1 (hl a ha).2.2.2.2.1 (hl a ha).2.2.2.2.2.1 (hl a ha).2.2.2.2.2.2
  have e4 : ∀ (l : List Nat), (∀ j ∈ l, j ≠ 42 ∧ j ≠ 43 ∧ j ≠ 44 ∧ j ≠ 45) → ∀ j ∈ l, I' 44 j = I 44 j := fun l hl j hj => h4 j (hl j hj).1 (hl j hj).2.1 (hl j hj).2.2.1 (hl j hj).2.2.2
  exact ⟨PR_fr (e _ (by decide)) pr, PQ_fr (e _ (by decide)) (e4 [48] (by decide) 48 (by decide)) pq, Pf_fr (by rw [e [11] (by decide) 11 (by decide)]) (by rw [e [22] (by decide) 22 (by decide)]) (by rw [e [28] (by decide) 28 (by decide)]) (by rw [e [34] (by decide) 34 (by decide)]) (e4 _ (by decide)) pf, c, ni, nk, no, PN_fr (e _ (by decide)) (e4 _ (by decide)) pn, hu c pn.1.1 pn.2.1.2.1 pu, PY_run h h4 py⟩
