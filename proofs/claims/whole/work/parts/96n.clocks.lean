/-! clock: both sides -/
/-- the reference's net, behind its inputs -/
theorem clockNet_ok (n : Nat) (hn : 2400 < n) {c no : Nat} (hc : c ≤ 32) (hno : no ≤ 8) (I : MI) (J : MJ) (h6 : I 44 6 = nI c) (h9 : I 44 9 = nI no) {V : Nat → Bool} (hV : ∀ i, i < c → I 45 i = 2 → ∃ x y o, x < 2 * i ∧ y < 2 * i ∧ o < 3 ∧ I 46 i = nI x ∧ I 47 i = nI y ∧ I 48 i = nI o ∧ V i = opB o (V (x / 2) ^^ x.testBit 0) (V (y / 2) ^^ y.testBit 0)) (h0 : ∀ i, i < c → ¬ I 45 i = 2 → I 71 i = bi (V i)) {s o : Nat → Nat} (hs : ∀ i, i < c → I 45 i = 1 → I 46 i = nI (s i) ∧ s i < c) (ho : ∀ k, k < no → I 50 k = nI (o k) ∧ o k < c) : ∃ I', fX10_clockNet n I J = some (I', J) ∧ (∀ a, a ≠ 44 → a ≠ 71 → a ≠ 73 → I' a = I a) ∧ (∀ j, I' 44 j = if j = 43 then nI (vb (fun k => V (o k)) no) else I 44 j) ∧ ∀ i, i < c → I 45 i = 1 → I' 71 i = bi (V (s i)) := by
  obtain ⟨I1, a1, a2, a3⟩ := cn2_ok n hn hc I J h6 hV h0
  have b1 := outsR_ok n hn (z := 0) hno I1 J (by rw [a2 44 (by decide)]; exact h9) (o := o) (fun k hk => by
    rw [a2 50 (by decide)]
    exact ⟨(ho k hk).1, by have := (ho k hk).2; omega⟩) (f := fun k => V (o k)) (fun k hk => by rw [if_pos rfl]; exact a3 _ (ho k hk).2)
  obtain ⟨I2, c1, c2, c3⟩ := cn72_ok n hn hc (upM I1 44 43 (nI (vb (fun k => V (o k)) no))) J (by rw [upM_get, if_pos rfl, if_neg (by decide), a2 44 (by decide)]; exact h6) (V := V) (fun i hi => by rw [upM_ne 71 (by decide)]; exact a3 i hi) (s := s) (fun i hi hs1 => by
    rw [upM_ne 45 (by decide), a2 45 (by decide)] at hs1
    rw [upM_ne 46 (by decide), a2 46 (by decide)]
    exact hs i hi hs1)
  refine ⟨I2, ?_, fun a q1 q2 q3 => by rw [c2 a q2 q3, upM_ne a q1]; exact a2 a q2, fun j => ?_, fun i hi hs1 => ?_⟩
  · unfold fX10_clockNet
    rw [a1, b1]
    simp only [Option.bind_some, lt]
    exact c1
  · rw [c2 44 (by decide) (by decide), upM_get, if_pos rfl, a2 44 (by decide)]
  · rw [c3 i hi, if_pos (by rw [upM_ne 45 (by decide), a2 45 (by decide)]; exact hs1)]
theorem clockCloth_ok (n : Nat) (hn : 2400 < n) {c no : Nat} (hc : c ≤ 32) (hno : no ≤ 8) (I0 I : MI) (J : MJ) {L : Nat → Nat → Nat} {K : Nat → Nat} {b : Nat → Int32} (hT : clT n c I0 J L K b) (h6 : I 44 6 = nI c) (h9 : I 44 9 = nI no) (hcells : ∀ a ∈ [45, 50, 55, 57, 68, 70], I a = I0 a) {U : Nat → Bool} (hU1 : ∀ i, i < c → tabG c I0 i = true → U i = clV c I0 L K b U i) (h72 : ∀ i, i < c → ¬ I0 45 i = 2 → I 72 i = bi (U i)) {o : Nat → Nat} (ho : ∀ k, k < no → I0 50 k = nI (o k) ∧ o k < c ∧ thg I0 (o k)) : ∃ I', fX10_clockCloth n I J = some (I', J) ∧ (∀ a, a ≠ 44 → a ≠ 72 → a ≠ 73 → I' a = I a) ∧ (∀ j, I' 44 j = if j = 44 then nI (vb (fun k => U (o k)) no) else I 44 j) ∧ ∀ i, i < c → I0 45 i = 1 → I' 72 i = bi (lv c I0 U 32 (L i 0)) := by
  obtain ⟨I1, a1, a2, a3⟩ := cc2_ok n hn hc I0 I J hT h6 ⟨hcells 45 (by decide), hcells 55 (by decide), hcells 57 (by decide), hcells 68 (by decide), hcells 70 (by decide)⟩ hU1 h72
  have b1 := outsR_ok n hn (z := 1) hno I1 J (by rw [a2 44 (by decide)]; exact h9) (o := o) (fun k hk => by
    rw [a2 50 (by decide), hcells 50 (by decide)]
    exact ⟨(ho k hk).1, by have := (ho k hk).2.1; omega⟩) (f := fun k => U (o k)) (fun k hk => by rw [if_neg (by decide)]; exact a3 _ (ho k hk).2.1 (ho k hk).2.2)
  obtain ⟨Y, hY⟩ : ∃ Y, Y = upM I1 44 44 (nI (vb (fun k => U (o k)) no)) := ⟨_, rfl⟩
  have eY : ∀ a, a ≠ 44 → a ≠ 72 → Y a = I a := fun a q1 q2 => by rw [hY, upM_ne a q1]; exact a2 a q2
  have e45 : Y 45 = I0 45 := by rw [eY 45 (by decide) (by decide)]; exact hcells 45 (by decide)
  have Y6 : Y 44 6 = nI c := by rw [hY, upM_get, if_pos rfl, if_neg (by decide), a2 44 (by decide)]; exact h6
  obtain ⟨I2, c1, c2, c3⟩ := cc126_ok n hn hc Y J Y6 (L := fun i => L i 0) (g := fun i => lv c I0 U 32 (L i 0)) (fun i hi hs1 => by
    rw [e45] at hs1
    obtain ⟨q, q1, q2, q3⟩ := (hT.1 i hi hs1).2.2
    refine ⟨q, q1, ?_, ?_⟩
    · rw [eY 70 (by decide) (by decide), hcells 70 (by decide)]; exact q2
    · rw [eY 68 (by decide) (by decide), hcells 68 (by decide)]; exact q3) (fun i hi hs1 M hM => by
    rw [e45] at hs1
    refine lIs_ok n (i := 32) hc (hT.1 i hi hs1).1 (Nat.le_refl _) I0 M J (by rw [hM 44 (by decide)]; exact Y6) (by rw [hM 45 (by decide)]; exact e45) (by rw [hM 55 (by decide), eY 55 (by decide) (by decide)]; exact hcells 55 (by decide)) (fun y1 y2 _ => ?_)
    rw [hM 72 (by decide), hY, upM_ne 72 (by decide)]
    exact a3 _ y1 y2)
  refine ⟨I2, ?_, fun a q1 q2 q3 => by rw [c2 a q2 q3]; exact eY a q1 q2, fun j => ?_, fun i hi hs1 => ?_⟩
  · unfold fX10_clockCloth
    rw [a1, b1]
    simp only [Option.bind_some, lt]
    rw [hY] at c1
    exact c1
  · rw [c2 44 (by decide) (by decide), hY, upM_get, if_pos rfl, a2 44 (by decide)]
  · rw [c3 i hi, if_pos (by rw [e45]; exact hs1)]
theorem B_clock_ok (n : Nat) (hn : 2400 < n) : B_clock Inv n := by
  intro x m I J hI
  obtain ⟨pr, pq, pf, c, ni, nk, no, pn, ⟨pu, pg, pw, pp, pfr, pe⟩⟩ := id hI
  obtain ⟨⟨hc, hni, hnk, hno⟩, ⟨h5, h6, h16, h7, -, -, h18, h9⟩, hcell, houts, -, -, -, -⟩ := id pn
  have f34 := pf.1.2.2.2
  obtain ⟨P, hP⟩ : ∃ P, P = 2 ^ ni := ⟨_, rfl⟩
  have hP1 : 1 ≤ P := by rw [hP]; exact Nat.one_le_two_pow
  have hP64 : P ≤ 64 := by rw [hP]; exact Nat.pow_le_pow_right (n := 2) (by decide) hni
  have e1 : (1 : Int32) <<< (nI ni &&& 31) = nI P := by rw [hP]; exact one_sh ni (by omega)
  have hR : ∀ (M : MI), M 44 7 = nI ni → fX10_clock n x M J = if b2 (0 ≤ x.toInt ∧ x.toInt ≤ (P : Int) - 1) = 0 then Option.bind (fX10_no n (-3 : Int32) M J) (fun r21 => some (r21.1, r21.2.1, r21.2.2)) else lX10_clock_29 n n x 0 0 M J := by
    intro M hM
    unfold fX10_clock
    rw [hM, e1, isIn_i]
    simp only [Option.bind_some]
    have : ((nI P - 1 : Int32).toInt64).toInt = (P : Int) - 1 := by
      rw [Int32.toInt_toInt64, show (1 : Int32) = nI 1 from rfl, pk_sub hP1, nI_toInt (by omega)]
      omega
    rw [this, show ((0 : Int64)).toInt = 0 from rfl]
  unfold fX9_clock fX9_clock_17
  have bad : ¬ (0 ≤ x.toInt ∧ x.toInt ≤ (P : Int) - 1) → tot (Option.bind (fX9_refuse n (-3 : Int32) I J) (fun r20 => some (r20.1, r20.2.1, r20.2.2))) (fun r => tot (fX10_clock n x r.2.1 r.2.2) (fun q => r.1 = q.1 ∧ Inv m q.2.1 q.2.2)) := by
    intro hb
    rw [ref_3]
    simp only [Option.bind_some]
    refine rr (j := 1) (f := fX10_clock n x) (by decide) hI ?_
    rw [hR _ (by rw [up43 (show (44 : Nat) ≠ 43 by decide)]; exact h7), b2_f hb, if_pos rfl, no_3]
    rfl
  rcases i_cases x (n := P) (by omega) with hx | hx | ⟨X, hX, rfl⟩
  · rw [if_pos hx]
    exact bad (fun z => by have := lt0.mp hx; omega)
  · have := (le_n (s := P) (by omega)).mp hx
    rw [if_neg (fun z => by have := lt0.mp z; omega), h16, e1, if_neg (Int32.not_lt.mpr hx)]
    exact bad (fun z => by omega)
  have hX64 : X < 64 := by omega
  rw [if_neg (nI_pos (by omega)), h16, e1, if_pos (nI_lt hX (by omega))]
  have hgood : b2 (0 ≤ (nI X).toInt ∧ (nI X).toInt ≤ (P : Int) - 1) = 1 := b2_t ⟨by rw [nI_toInt (by omega)]; omega, by rw [nI_toInt (by omega)]; omega⟩
  have hRg : ∀ (M : MI), M 44 7 = nI ni → fX10_clock n (nI X) M J = lX10_clock_29 n n (nI X) 0 0 M J := fun M hM => by rw [hR M hM, hgood, if_neg (by decide)]
  /- the net's values -/
  have hsort : ∀ i, i < c → I 2 i = 0 ∨ I 2 i = 1 ∨ I 2 i = 2 := by
    intro i hi
    obtain ⟨-, -, -, g | g | g⟩ := hcell i hi
    · exact Or.inl g.1
    · exact Or.inr (Or.inl g.1)
    · exact Or.inr (Or.inr g.1)
  have h45 : ∀ i, i < c → I 45 i = I 2 i := fun i hi => (hcell i hi).1
  have hin : ∀ i, i < c → gateIn I i := by
    intro i hi hs
    obtain ⟨-, -, -, g | g | g⟩ := hcell i hi
    · exact absurd (g.1.symm.trans hs) (by decide)
    · exact absurd (g.1.symm.trans hs) (by decide)
    · obtain ⟨-, ⟨x, x1, x2⟩, ⟨y, y1, y2⟩, o, o1, o2, -⟩ := g
      exact ⟨x, y, o, x1, y1, o1, x2, y2, o2⟩
  have h48 : ∀ i, i < c → I 2 i = 2 → I 48 i = I 5 i := by
    intro i hi hs
    obtain ⟨-, -, -, g | g | g⟩ := hcell i hi
    · exact absurd (g.1.symm.trans hs) (by decide)
    · exact absurd (g.1.symm.trans hs) (by decide)
    · obtain ⟨-, -, -, o, -, o2, o3⟩ := g
      rw [o2, o3]
  obtain ⟨s, hsd⟩ : ∃ s : Nat → Nat, s = fun i => (I 3 i).toNatClampNeg := ⟨_, rfl⟩
  have hs : ∀ i, i < c → I 2 i = 1 → I 3 i = nI (s i) ∧ s i < c := by
    intro i hi hs1
    obtain ⟨-, -, -, g | g | g⟩ := hcell i hi
    · exact absurd (g.1.symm.trans hs1) (by decide)
    · obtain ⟨-, ⟨y, y1, y2⟩, -⟩ := g
      rw [hsd]
      show I 3 i = nI ((I 3 i).toNatClampNeg) ∧ (I 3 i).toNatClampNeg < c
      rw [y2, nI_clamp (by omega)]
      exact ⟨rfl, y1⟩
    · exact absurd (g.1.symm.trans hs1) (by decide)
  obtain ⟨o, hod⟩ : ∃ o : Nat → Nat, o = fun k => (I 6 k).toNatClampNeg := ⟨_, rfl⟩
  have ho : ∀ k, k < no → I 6 k = nI (o k) ∧ o k < c := by
    intro k hk
    obtain ⟨-, y, y1, y2⟩ := houts k hk
    rw [hod]
    show I 6 k = nI ((I 6 k).toNatClampNeg) ∧ (I 6 k).toNatClampNeg < c
    rw [y2, nI_clamp (by omega)]
    exact ⟨rfl, y1⟩
  obtain ⟨C, hCd⟩ : ∃ C : Nat → Nat, C = fun i => ct_cnt (fun z => decide (I 2 z = 0)) i := ⟨_, rfl⟩
  have hCc : C c ≤ 6 := by
    have h := pe.2.2.2.2.1
    rw [h16] at h
    have hle := ct_cnt_le (fun z => decide (I 2 z = 0)) c
    have := (nI_eq (by omega) (by omega)).mp h
    rw [hCd]
    show ct_cnt (fun z => decide (I 2 z = 0)) c ≤ 6
    omega
  have hC6 : ∀ k, k ≤ c → C k ≤ 6 := by
    intro k hk
    have := ct_cnt_mono (fun z => decide (I 2 z = 0)) (a := k) c hk
    rw [hCd] at hCc ⊢
    exact Nat.le_trans this hCc
  have hCs : ∀ k, k < c → C (k + 1) = if I 45 k = 0 then C k + 1 else C k := by
    intro k hk
    rw [hCd, h45 k hk]
    show (if decide (I 2 k = 0) = true then _ else _) = _
    by_cases z : I 2 k = 0
    · rw [if_pos (decide_eq_true z), if_pos z]
    · rw [if_neg (fun q => z (of_decide_eq_true q)), if_neg z]
  obtain ⟨V, hVi, hVk, hVg⟩ : ∃ V : Nat → Bool, (∀ i, i < c → I 2 i = 0 → V i = X.testBit (C i)) ∧ (∀ i, i < c → I 2 i = 1 → V i = bt (I 39 i) 0) ∧ ∀ i, i < c → I 2 i = 2 → V i = gateV I V i := by
    have hdep : ∀ i W W', (∀ j, (j < i ∨ ¬ decide (j < c ∧ I 2 j = 2) = true) → W j = W' j) → (fun W i => if i < c ∧ I 2 i = 2 then gateV I W i else false) W i = (fun W i => if i < c ∧ I 2 i = 2 then gateV I W i else false) W' i := by
      intro i W W' h
      show (if i < c ∧ I 2 i = 2 then gateV I W i else false) = (if i < c ∧ I 2 i = 2 then gateV I W' i else false)
      by_cases z : i < c ∧ I 2 i = 2
      · rw [if_pos z, if_pos z]
        obtain ⟨x, y, o, x1, y1, o1, e3, e4, e5⟩ := hin i z.1 z.2
        unfold gateV
        rw [e3, e4, nI_clamp (by omega), nI_clamp (by omega), h (x / 2) (Or.inl (by omega)), h (y / 2) (Or.inl (by omega))]
      · rw [if_neg z, if_neg z]
    refine ⟨cv (fun W i => if i < c ∧ I 2 i = 2 then gateV I W i else false) (fun i => if I 2 i = 0 then X.testBit (C i) else bt (I 39 i) 0) (fun i => decide (i < c ∧ I 2 i = 2)) 32, fun i hi z => ?_, fun i hi z => ?_, fun i hi z => ?_⟩
    · rw [cv_B (fun q => by rw [(of_decide_eq_true q).2] at z; exact absurd z (by decide))]
      exact if_pos z
    · rw [cv_B (fun q => by rw [(of_decide_eq_true q).2] at z; exact absurd z (by decide))]
      exact if_neg (by rw [z]; decide)
    · rw [cv_fix hdep (show i < 32 by omega) (decide_eq_true ⟨hi, z⟩)]
      exact if_pos ⟨hi, z⟩
  have hCf : ∀ i, ct_cnt (fun z => decide (I 2 z = 0)) i = C i := fun i => by rw [hCd]
  obtain ⟨I1, a1, a2, a3, a4⟩ := stepNet_ok n hn hc hno hX64 I J h5 h18 hsort hin hs ho (V := V) (fun i hi z => by rw [hCf]; exact hVi i hi z) hVk hVg
  rw [a1]
  simp only [Option.bind_some]
  obtain ⟨⟨k0, u1, u1'⟩, u2, u3, u4, u5, u6, u7⟩ := id pu
  have hVr : ∀ i, i < c → I 45 i = 2 → ∃ x y o, x < 2 * i ∧ y < 2 * i ∧ o < 3 ∧ I 46 i = nI x ∧ I 47 i = nI y ∧ I 48 i = nI o ∧ V i = opB o (V (x / 2) ^^ x.testBit 0) (V (y / 2) ^^ y.testBit 0) := by
    intro i hi z
    rw [h45 i hi] at z
    obtain ⟨x, y, o', x1, y1, o1, e3, e4, e5⟩ := hin i hi z
    refine ⟨x, y, o', x1, y1, o1, by rw [(hcell i hi).2.1]; exact e3, by rw [(hcell i hi).2.2.1]; exact e4, by rw [h48 i hi z]; exact e5, ?_⟩
    rw [hVg i hi z]
    unfold gateV
    rw [e3, e4, e5, nI_clamp (by omega), nI_clamp (by omega), nI_clamp (by omega)]
  /- the reference over any state that the class left -/
  have ref : ∀ Y : MI, (∀ a, a ≠ 38 → a ≠ 39 → a ≠ 40 → Y a = I a) → ∃ Z0 Z : MI, fX10_clock n (nI X) Y J = (if Z 44 14 = 0 then some (Z 44 43, Z, J) else Option.bind (fX10_clockCloth n Z J) (fun r112 => (if 0 ≤ (r112.1 44 45) then some ((r112.1 44 43), r112.1, r112.2) else (if (r112.1 44 43) = (r112.1 44 44) then some ((r112.1 44 43), r112.1, r112.2) else lt (upM r112.1 44 45 (r112.1 44 42)) (fun I138 => some ((I138 44 43), I138, r112.2)))))) ∧ (∀ a, a ≠ 44 → a ≠ 71 → a ≠ 72 → a ≠ 73 → Z a = Y a) ∧ (∀ j, Z 44 j = if j = 43 then nI (vb (fun k => V (o k)) no) else if j = 42 then I 44 42 + 1 else I 44 j) ∧ (∀ i, i < c → I 45 i = 1 → Z 71 i = bi (V (s i))) ∧ ∀ i, Z 72 i = if i < c ∧ I 45 i = 0 then bi (X.testBit (C i)) else I 72 i := by
    intro Y hY
    have y44 : Y 44 = I 44 := hY 44 (by decide) (by decide) (by decide)
    have y45 : Y 45 = I 45 := hY 45 (by decide) (by decide) (by decide)
    obtain ⟨Z0, z1, z2, z3⟩ := ckIn_ok n hn hc hX64 Y J (by rw [y44]; exact h6) (C := C) (by rw [hCd]; rfl) (by rw [y45]; exact hCs) hC6
    rw [y45] at z3
    obtain ⟨Q, hQ⟩ : ∃ Q, Q = upM Z0 44 42 (I 44 42 + 1) := ⟨_, rfl⟩
    have eQ : ∀ a, a ≠ 38 → a ≠ 39 → a ≠ 40 → a ≠ 44 → a ≠ 71 → a ≠ 72 → Q a = I a := fun a q1 q2 q3 q4 q5 q6 => by rw [hQ, upM_ne a q4, z2 a q5 q6]; exact hY a q1 q2 q3
    have eQ' : ∀ (l : List Nat), (∀ a ∈ l, a ≠ 38 ∧ a ≠ 39 ∧ a ≠ 40 ∧ a ≠ 44 ∧ a ≠ 71 ∧ a ≠ 72) → ∀ a ∈ l, Q a = I a := fun l hl a ha => eQ a (hl a ha).1 (hl a ha).2.1 (hl a ha).2.2.1 (hl a ha).2.2.2.1 (hl a ha).2.2.2.2.1 (hl a ha).2.2.2.2.2
    have q45 : Q 45 = I 45 := eQ' [45] (by decide) 45 (by decide)
    have q44 : ∀ j, Q 44 j = if j = 42 then I 44 42 + 1 else I 44 j := fun j => by
      rw [hQ, upM_get, if_pos rfl, z2 44 (by decide) (by decide), y44]
    have q7 : ∀ a, (a = 71 ∨ a = 72) → ∀ i, Q a i = if i < c ∧ I 45 i = 0 then bi (X.testBit (C i)) else I a i := fun a ha i => by
      rw [hQ, upM_ne a (by omega), z3 a ha i, hY a (by omega) (by omega) (by omega)]
    obtain ⟨Z, w1, w2, w3, w4⟩ := clockNet_ok n hn hc hno Q J (by rw [q44, if_neg (by decide)]; exact h6) (by rw [q44, if_neg (by decide)]; exact h9) (V := V) (by
        rw [q45, eQ' [46] (by decide) 46 (by decide), eQ' [47] (by decide) 47 (by decide), eQ' [48] (by decide) 48 (by decide)]
        exact hVr) (fun i hi hg => by
        rw [q45] at hg
        rw [q7 71 (Or.inl rfl) i]
        rcases hsort i hi with z | z | z
        · rw [if_pos ⟨hi, by rw [h45 i hi]; exact z⟩, hVi i hi z]
        · rw [if_neg (fun q => by rw [h45 i hi, z] at q; exact absurd q.2 (by decide)), (u7 i hi z).1, hVk i hi z, and1I]
        · exact absurd (by rw [h45 i hi]; exact z) hg) (s := s) (o := o) (fun i hi hs1 => by
        rw [q45] at hs1
        rw [h45 i hi] at hs1
        rw [eQ' [46] (by decide) 46 (by decide), (hcell i hi).2.1]
        exact hs i hi hs1) (fun k hk => by
        rw [eQ' [50] (by decide) 50 (by decide), (houts k hk).1]
        exact ho k hk)
    refine ⟨Z0, Z, ?_, fun a q1 q2 q3 q4 => ?_, fun j => ?_, fun i hi hs1 => ?_, fun i => ?_⟩
    · rw [hRg Y (by rw [y44]; exact h7), z1]
      unfold ckE
      simp only [lt]
      rw [z2 44 (by decide) (by decide), y44, ← hQ, w1]
      simp only [Option.bind_some]
    · rw [w2 a q1 q2 q4, hQ, upM_ne a q1, z2 a q2 q3]
    · rw [w3 j, q44 j]
    · exact w4 i hi (by rw [q45]; exact hs1)
    · rw [w2 72 (by decide) (by decide) (by decide), q7 72 (Or.inr rfl) i]
  have hk1 : I 38 0 + 1 = nI (k0 + 1) := by rw [u1, nI_1]
  have e34 : I1 34 = I 34 := a2 34 (by decide) (by decide)
  rw [e34]
  by_cases h34 : I 34 0 = 0
  · /- no frames -/
    rw [if_pos h34]
    refine tot_some.mpr ?_
    show tot (fX10_clock n (nI X) I1 J) _
    obtain ⟨Z0, Z, z1, z2, z3, z4, z5⟩ := ref I1 (fun a q1 q2 _ => a2 a q1 q2)
    rw [z1, if_pos (by rw [z3, if_neg (by decide), if_neg (by decide), ← f34]; exact h34)]
    have Z38 : Z 38 = I1 38 := z2 38 (by decide) (by decide) (by decide) (by decide)
    have Zs : ∀ a, a ≠ 38 → a ≠ 39 → a ≠ 44 → a ≠ 71 → a ≠ 72 → a ≠ 73 → Z a = I a := fun a q1 q2 q3 q4 q5 q6 => by rw [z2 a q3 q4 q5 q6]; exact a2 a q1 q2
    refine tot_some.mpr ?_
    show I1 38 1 = Z 44 43 ∧ Inv m Z J
    refine ⟨?_, Inv_run (fun a q1 q2 q3 q4 q5 q6 q7 => Zs a q1 q2 q7 q4 q5 q6) (fun j q1 q2 q3 q4 => by rw [z3 j, if_neg q2, if_neg q1]) (fun c' hc' h6' pu' => ?_) hI⟩
    · show I1 38 1 = Z 44 43
      rw [a3 1, if_neg (by decide), if_pos rfl, z3 43, if_pos rfl]
    · obtain rfl : c' = c := (nI_eq (by omega) (by omega)).mp (h6'.symm.trans h6)
      refine ⟨⟨k0 + 1, ?_, by omega⟩, ?_, fun _ => ?_, fun _ q => ?_, ?_, ?_, fun i hi hs1 => ?_⟩
      · rw [Z38, a3 0, if_pos rfl, hk1]
      · rw [Z38, a3 0, if_pos rfl, z3 42, if_neg (by decide), if_pos rfl, u2]
      · rw [Z38, a3 1, if_neg (by decide), if_pos rfl, z3 43, if_pos rfl]
      · rw [Zs 34 (by decide) (by decide) (by decide) (by decide) (by decide) (by decide), h34] at q
        exact absurd q (by decide)
      · rw [Z38, a3 3, if_neg (by decide), if_neg (by decide), z3 45, if_neg (by decide), if_neg (by decide)]; exact u5
      · rw [Z38, a3 3, if_neg (by decide), if_neg (by decide)]; exact u6
      · rw [Zs 2 (by decide) (by decide) (by decide) (by decide) (by decide) (by decide)] at hs1
        have s45 : I 45 i = 1 := by rw [h45 i hi]; exact hs1
        refine ⟨?_, ?_⟩
        · rw [z4 i hi s45, z2 39 (by decide) (by decide) (by decide) (by decide), a4 i hi hs1, bi_and]
        · rw [z5 i, if_neg (fun q => by rw [s45] at q; exact absurd q.2 (by decide)), Zs 40 (by decide) (by decide) (by decide) (by decide) (by decide) (by decide)]
          exact (u7 i hi hs1).2
  /- with frames -/
  have h14 : I 44 14 = 1 := pf.2.1.2.2.2.resolve_left (by rw [← f34]; exact h34)
  have h12 := pf.2.2.2.2 h14
  have h11 := pf.2.2.1 h12
  obtain ⟨no', K', D, W, t1, t2, k1, hW, t3, t4, t5, t6⟩ := pe.2.1 h11
  obtain rfl : no' = no := (nI_eq (by omega) (by omega)).mp (t2.symm.trans h18)
  have hwf := kOk_wf hc k1
  have hK : ∀ g, g < c → I 2 g = 2 → (K' g).2 0 < 2 ^ g := fun g hg hs => ((hwf g hg).1.2.2 0 ((hwf g hg).2.2 hs)).1
  have hWg : ∀ i, i < c → W i = tabG c I i := by
    intro i hi
    have h4 := t4 i hi
    unfold tabG
    cases hw : W i with
    | true =>
      rw [hw, if_pos rfl] at h4
      have hs2 := (tw_lt hK c (Nat.le_refl _) i ((hW i).mp hw)).2
      exact (decide_eq_true ⟨hi, by rw [h45 i hi]; exact hs2, by rw [h4]; decide⟩).symm
    | false =>
      rw [hw, if_neg (by decide)] at h4
      exact (decide_eq_false (fun q => q.2.2 h4)).symm
  have hot : ∀ k, k < no' → thg I (o k) := by
    intro k hk
    obtain ⟨y1, y2⟩ := ho k hk
    by_cases hg : I 45 (o k) = 2
    · right
      have hw : W (o k) = true := (hW (o k)).mpr (tw_mono (Nat.zero_le _) (show tw c no' K' (I 2) (I 3) (I 6) 0 (o k) from ⟨y2, by rw [← h45 _ y2]; exact hg, Or.inl ⟨k, hk, y1⟩⟩))
      rw [t4 _ y2, if_pos hw]
      decide
    · exact Or.inl hg
  obtain ⟨L, K, b, hT⟩ := clT_ex n hI hc h6 h14 (fun i hi hs h55 => by
    have hw : W i = true := by rw [hWg i hi]; exact decide_eq_true ⟨hi, hs, h55⟩
    obtain ⟨y1, y2, -⟩ := t6 i hi hw
    rw [y1, y2])
  obtain ⟨U, hUi, hUk, hU0, hU1⟩ : ∃ U : Nat → Bool, (∀ i, i < c → I 2 i = 0 → U i = X.testBit (C i)) ∧ (∀ i, i < c → I 2 i = 1 → U i = bt (I 40 i) 0) ∧ (∀ i, i < c → I 45 i = 2 → I 55 i = 0 → U i = false) ∧ ∀ i, i < c → tabG c I i = true → U i = clV c I L K b U i := by
    have hng : ∀ i, i < c → ¬ I 2 i = 2 → ¬ tabG c I i = true := fun i hi z q => z (by rw [← h45 i hi]; exact (of_decide_eq_true q).2.1)
    refine ⟨cv (fun W i => clV c I L K b W i) (fun i => if I 2 i = 0 then X.testBit (C i) else if I 2 i = 1 then bt (I 40 i) 0 else false) (tabG c I) 32, fun i hi z => ?_, fun i hi z => ?_, fun i hi z1 z2 => ?_, fun i hi z => ?_⟩
    · rw [cv_B (hng i hi (by rw [z]; decide))]
      exact if_pos z
    · rw [cv_B (hng i hi (by rw [z]; decide))]
      show (if I 2 i = 0 then _ else _) = _
      rw [if_neg (by rw [z]; decide), if_pos z]
    · rw [cv_B (fun q => (of_decide_eq_true q).2.2 z2)]
      rw [h45 i hi] at z1
      show (if I 2 i = 0 then _ else _) = _
      rw [if_neg (by rw [z1]; decide), if_neg (by rw [z1]; decide)]
    · exact cv_fix (fun i W W' h => clV_dep i W W' h) (show i < 32 by omega) z
  obtain ⟨I2, d1, d2, d3, d4⟩ := stepCloth_ok n hn hc hno hX64 I I1 J hT a2 h5 h18 hsort h45 (fun i hi => by rw [t3 i (by omega)]; exact hWg i hi) ho (U := U) (fun i hi z => by rw [hCf]; exact hUi i hi z) hUk hU0 hU1
  rw [if_neg h34, d1]
  simp only [Option.bind_some]
  refine tot_some.mpr ?_
  show tot (fX10_clock n (nI X) I2 J) _
  have e2s : ∀ a, a ≠ 38 → a ≠ 39 → a ≠ 40 → I2 a = I a := fun a q1 q2 q3 => by rw [d2 a q1 q3]; exact a2 a q1 q2
  obtain ⟨Z0, Z, z1, z2, z3, z4, z5⟩ := ref I2 e2s
  rw [z1, if_neg (by rw [z3, if_neg (by decide), if_neg (by decide), h14]; decide)]
  have Zs : ∀ a, a ≠ 38 → a ≠ 39 → a ≠ 40 → a ≠ 44 → a ≠ 71 → a ≠ 72 → a ≠ 73 → Z a = I a := fun a q1 q2 q3 q4 q5 q6 q7 => by rw [z2 a q4 q5 q6 q7]; exact e2s a q1 q2 q3
  obtain ⟨Q, w1, w2, w3, w4⟩ := clockCloth_ok n hn hc hno I Z J hT (by rw [z3, if_neg (by decide), if_neg (by decide)]; exact h6) (by rw [z3, if_neg (by decide), if_neg (by decide)]; exact h9) (fun a ha => by
      simp only [List.mem_cons, List.not_mem_nil, or_false] at ha
      exact Zs a (by omega) (by omega) (by omega) (by omega) (by omega) (by omega) (by omega)) (U := U) hU1 (fun i hi hg => by
      rw [z5 i]
      rw [h45 i hi] at hg
      rcases hsort i hi with z | z | z
      · rw [if_pos ⟨hi, by rw [h45 i hi]; exact z⟩, hUi i hi z]
      · rw [if_neg (fun q => by rw [h45 i hi, z] at q; exact absurd q.2 (by decide)), (u7 i hi z).2, hUk i hi z, and1I]
      · exact absurd z hg) (o := o) (fun k hk => by
      rw [(houts k hk).1]
      exact ⟨(ho k hk).1, (ho k hk).2, hot k hk⟩)
  rw [w1]
  simp only [Option.bind_some]
  generalize hNV : nI (vb (fun k => V (o k)) no') = NV at *
  generalize hNU : nI (vb (fun k => U (o k)) no') = NU at *
  have q44 : ∀ j, Q 44 j = if j = 44 then NU else if j = 43 then NV else if j = 42 then I 44 42 + 1 else I 44 j := fun j => by rw [w3 j, z3 j]
  have Q38 : Q 38 = I2 38 := by rw [w2 38 (by decide) (by decide) (by decide), z2 38 (by decide) (by decide) (by decide) (by decide)]
  have q38 : ∀ j, Q 38 j = if j = 3 ∧ I 38 3 = -1 ∧ ¬ NU = NV then nI (k0 + 1) else if j = 2 then NU else if j = 0 then nI (k0 + 1) else if j = 1 then NV else I 38 j := fun j => by
    rw [Q38, d3 j, a3 3, a3 1, a3 0, a3 j, hk1]
    simp
  have Qs : ∀ a, a ≠ 38 → a ≠ 39 → a ≠ 40 → a ≠ 44 → a ≠ 71 → a ≠ 72 → a ≠ 73 → Q a = I a := fun a q1 q2 q3 q4 q5 q6 q7 => by rw [w2 a q4 q6 q7]; exact Zs a q1 q2 q3 q4 q5 q6 q7
  have hkeep : ∀ i, i < c → I 2 i = 1 → Q 71 i = Q 39 i &&& 1 ∧ Q 72 i = Q 40 i &&& 1 := by
    intro i hi hs1
    have s45 : I 45 i = 1 := by rw [h45 i hi]; exact hs1
    refine ⟨?_, ?_⟩
    · rw [w2 71 (by decide) (by decide) (by decide), z4 i hi s45, w2 39 (by decide) (by decide) (by decide), z2 39 (by decide) (by decide) (by decide) (by decide), d2 39 (by decide) (by decide), a4 i hi hs1, bi_and]
    · rw [w4 i hi s45, w2 40 (by decide) (by decide) (by decide), z2 40 (by decide) (by decide) (by decide) (by decide), d4 i hi hs1, bi_and]
  have hans : I2 38 1 = NV := by rw [← Q38, q38 1]; simp
  have hu45 := u5
  /- behind the last step -/
  have fin : ∀ (R : MI) (v : Int32), v = R 44 43 → (∀ a, a ≠ 44 → R a = Q a) → (∀ j, j ≠ 45 → R 44 j = Q 44 j) → R 44 45 = Q 38 3 → tot (some (v, R, J)) (fun q => (I2 38 1, I2, J).1 = q.1 ∧ Inv m q.2.1 q.2.2) := by
    intro R v hv r1 r2 r3
    refine tot_some.mpr ?_
    show I2 38 1 = v ∧ Inv m R J
    refine ⟨?_, Inv_run (fun a q1 q2 q3 q4 q5 q6 q7 => by rw [r1 a q7]; exact Qs a q1 q2 q3 q7 q4 q5 q6) (fun j q1 q2 q3 q4 => by rw [r2 j q4, q44 j, if_neg q3, if_neg q2, if_neg q1]) (fun c' hc' h6' pu' => ?_) hI⟩
    · show I2 38 1 = v
      rw [hans, hv, r2 43 (by decide), q44 43]
      rfl
    · obtain rfl : c' = c := (nI_eq (by omega) (by omega)).mp (h6'.symm.trans h6)
      have r38 := r1 38 (by decide)
      have v0 : Q 38 0 = nI (k0 + 1) := by rw [q38 0]; simp
      have v1 : Q 38 1 = NV := by rw [q38 1]; simp
      have v2 : Q 38 2 = NU := by rw [q38 2]; simp
      refine ⟨⟨k0 + 1, by rw [r38, v0], by omega⟩, ?_, fun _ => ?_, fun _ _ => ?_, by rw [r38, r3], ?_, fun i hi hs1 => ?_⟩
      · rw [r38, v0, r2 42 (by decide), q44 42, ← hk1, ← u2]
        rfl
      · rw [r38, v1, r2 43 (by decide), q44 43]
        rfl
      · rw [r38, v2, r2 44 (by decide), q44 44]
        rfl
      · rw [r38, q38 3]
        by_cases hd : (3 : Nat) = 3 ∧ I 38 3 = -1 ∧ ¬ NU = NV
        · rw [if_pos hd]; exact Or.inr ⟨k0 + 1, by omega, rfl⟩
        · rw [if_neg hd]; exact u6
      · rw [r1 2 (by decide), Qs 2 (by decide) (by decide) (by decide) (by decide) (by decide) (by decide) (by decide)] at hs1
        rw [r1 71 (by decide), r1 39 (by decide), r1 72 (by decide), r1 40 (by decide)]
        exact hkeep i hi hs1
  have e45 : Q 44 45 = I 38 3 := by rw [q44 45, ← u5]; rfl
  have e43 : Q 44 43 = NV := by rw [q44 43]; rfl
  have e44 : Q 44 44 = NU := by rw [q44 44]; rfl
  by_cases hd : 0 ≤ Q 44 45
  · rw [if_pos hd]
    refine fin Q _ rfl (fun _ _ => rfl) (fun _ _ => rfl) ?_
    rw [e45, q38 3, if_neg (fun z => ?_)]
    · rfl
    · rw [e45, z.2.1] at hd
      exact absurd hd (by decide)
  · rw [if_neg hd, e43, e44]
    have h3 : I 38 3 = -1 := by
      rcases u6 with z | ⟨k, y1, y2⟩
      · exact z
      · rw [e45, y2] at hd
        exact absurd (nI_pos' (by omega)) hd
    by_cases hq : NV = NU
    · rw [if_pos hq]
      refine fin Q _ e43.symm (fun _ _ => rfl) (fun _ _ => rfl) ?_
      rw [e45, q38 3, if_neg (fun z => z.2.2 hq.symm)]
      rfl
    · rw [if_neg hq]
      simp only [lt]
      refine fin _ _ rfl (fun a ha => by rw [upM_ne a ha]) (fun j hj => by rw [upM_get, if_pos rfl, if_neg hj]) ?_
      rw [upM_get, if_pos rfl, if_pos rfl, q38 3, if_pos ⟨rfl, h3, fun z => hq z.symm⟩, q44 42]
      show I 44 42 + 1 = _
      rw [u2, hk1]
