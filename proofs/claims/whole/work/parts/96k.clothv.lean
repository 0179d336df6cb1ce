/-! clock: the cloth from its frames -/
def lv (c : Nat) (I : MI) (W : Nat → Bool) (i l : Nat) : Bool := decide (l < c ∧ thg I l ∧ (¬ I 45 l = 2 ∨ l < i)) && W l
def tabG (c : Nat) (I : MI) (i : Nat) : Bool := decide (i < c ∧ I 45 i = 2 ∧ ¬ I 55 i = 0)
/-- what the frames hold, read alike on both sides -/
def clT (n c : Nat) (I : MI) (J : MJ) (L : Nat → Nat → Nat) (K : Nat → Nat) (b : Nat → Int32) : Prop :=
  (∀ i, i < c → I 45 i = 1 → L i 0 < 256 ∧ (∀ M : MI, M 35 = I 35 → M 37 = I 37 → fX1_letterThere n (nI i) 0 M J = some (nI (L i 0), M, J)) ∧ ∃ q, q < 1440 ∧ I 70 i + 3 = nI q ∧ I 68 q = nI (L i 0)) ∧
  (∀ i, i < c → I 45 i = 2 → ¬ I 55 i = 0 → K i ≤ 4 ∧ I 12 i = nI (K i) ∧ I 57 i = nI (K i) ∧ (∀ j, j < K i → L i j < 256 ∧ (∀ M : MI, M 35 = I 35 → M 37 = I 37 → fX1_letterThere n (nI i) (nI j) M J = some (nI (L i j), M, J)) ∧ ∃ q, q < 1440 ∧ I 70 i + 3 + nI j = nI q ∧ I 68 q = nI (L i j)) ∧
    (∀ M : MI, M 12 = I 12 → M 35 = I 35 → M 37 = I 37 → fX1_bitsThere n (nI i) M J = some (b i, M, J)) ∧ ∀ M : MI, M 57 = I 57 → M 68 = I 68 → M 70 = I 70 → fX10_bitsThere n (nI i) M J = some (b i, M, J))
theorem clT_ex (n : Nat) {m c : Nat} {I : MI} {J : MJ} (hI : Inv m I J) (hc : c ≤ 32) (h6 : I 44 6 = nI c) (h14 : I 44 14 = 1) (h12 : ∀ i, i < c → I 45 i = 2 → ¬ I 55 i = 0 → I 12 i = I 57 i) : ∃ L K b, clT n c I J L K b := by
  have hex : ∀ i, ∃ (Lr : Nat → Nat) (k : Nat) (b : Int32), i < c → (I 45 i = 1 → Lr 0 < 256 ∧ (∀ M : MI, M 35 = I 35 → M 37 = I 37 → fX1_letterThere n (nI i) 0 M J = some (nI (Lr 0), M, J)) ∧ ∃ q, q < 1440 ∧ I 70 i + 3 = nI q ∧ I 68 q = nI (Lr 0)) ∧
      (I 45 i = 2 → ¬ I 55 i = 0 → k ≤ 4 ∧ I 12 i = nI k ∧ I 57 i = nI k ∧ (∀ j, j < k → Lr j < 256 ∧ (∀ M : MI, M 35 = I 35 → M 37 = I 37 → fX1_letterThere n (nI i) (nI j) M J = some (nI (Lr j), M, J)) ∧ ∃ q, q < 1440 ∧ I 70 i + 3 + nI j = nI q ∧ I 68 q = nI (Lr j)) ∧
        (∀ M : MI, M 12 = I 12 → M 35 = I 35 → M 37 = I 37 → fX1_bitsThere n (nI i) M J = some (b, M, J)) ∧ ∀ M : MI, M 57 = I 57 → M 68 = I 68 → M 70 = I 70 → fX10_bitsThere n (nI i) M J = some (b, M, J)) := by
    intro i
    by_cases hi : i < c ∧ thg I i ∧ (I 45 i = 1 ∨ I 45 i = 2)
    · obtain ⟨hi, hth, hs⟩ := hi
      obtain ⟨p, q, N, l1, l2, e37, e70, hby, hA, hB⟩ := fr_at hI hc h6 h14 hi hth hs
      have hv : ∀ j, j < N → I 35 (p + j) = nI ((I 68 (q + j)).toNatClampNeg) ∧ I 68 (q + j) = nI ((I 68 (q + j)).toNatClampNeg) ∧ (I 68 (q + j)).toNatClampNeg < 256 := by
        intro j hj
        obtain ⟨y1, v, y2, y3⟩ := hby j hj
        rw [y1, y3, nI_clamp (by omega)]
        exact ⟨rfl, rfl, y2⟩
      have hLT : ∀ j, j < N → ∀ M : MI, M 35 = I 35 → M 37 = I 37 → fX1_letterThere n (nI i) (nI j) M J = some (nI ((I 68 (q + j)).toNatClampNeg), M, J) := by
        intro j hj M m1 m2
        unfold fX1_letterThere
        rw [if_pos (inb_nI (by omega) (by decide)), clampI (by omega), m2, m1, e37, nI_add, if_pos (inb_nI (by omega) (by decide)), clampI (by omega), (hv j hj).1]
      rcases hs with hs | hs
      · have hN := hA hs
        refine ⟨fun j => (I 68 (q + j)).toNatClampNeg, 0, 0, fun _ => ⟨fun _ => ⟨(hv 0 (by omega)).2.2, hLT 0 (by omega), q, by omega, e70, (hv 0 (by omega)).2.1⟩, fun z => absurd (hs.symm.trans z) (by decide)⟩⟩
      · obtain ⟨k, k1, k2, k3⟩ := hB hs
        refine ⟨fun j => (I 68 (q + j)).toNatClampNeg, k, I 35 (p + k) ||| I 35 (p + (k + 1)) <<< ((8 : Int32) &&& 31), fun _ => ⟨fun z => absurd (hs.symm.trans z) (by decide), fun _ h55 => ⟨k1, by rw [h12 i hi hs h55]; exact k2, k2, fun j hj => ⟨(hv j (by omega)).2.2, hLT j (by omega), q + j, by omega, by rw [e70, nI_add], (hv j (by omega)).2.1⟩, ?_, ?_⟩⟩⟩
        · intro M m0 m1 m2
          unfold fX1_bitsThere
          rw [if_pos (inb_nI (by omega) (by decide)), if_pos (inb_nI (by omega) (by decide)), clampI (by omega), m0, m1, m2, e37, h12 i hi hs h55, k2, nI_add]
          simp only [lt]
          rw [if_pos (inb_nI (by omega) (by decide)), nI_1, if_pos (inb_nI (by omega) (by decide)), clampI (by omega), clampI (by omega), Nat.add_assoc]
        · intro M m0 m1 m2
          unfold fX10_bitsThere
          rw [if_pos (inb_nI (by omega) (by decide)), if_pos (inb_nI (by omega) (by decide)), clampI (by omega), m0, m1, m2, e70, k2, nI_add]
          simp only [lt]
          rw [if_pos (inb_nI (by omega) (by decide)), nI_1, if_pos (inb_nI (by omega) (by decide)), clampI (by omega), clampI (by omega), Nat.add_assoc, (hby k (by omega)).1, (hby (k + 1) (by omega)).1]
    · refine ⟨fun _ => 0, 0, 0, fun hi' => ⟨fun z => absurd ⟨hi', Or.inl (by rw [z]; decide), Or.inl z⟩ hi, fun z z' => absurd ⟨hi', Or.inr z', Or.inr z⟩ hi⟩⟩
  refine ⟨fun i => (hex i).choose, fun i => (hex i).choose_spec.choose, fun i => (hex i).choose_spec.choose_spec.choose, fun i hi hs => ((hex i).choose_spec.choose_spec.choose_spec hi).1 hs, fun i hi hs h55 => ((hex i).choose_spec.choose_spec.choose_spec hi).2 hs h55⟩
/-- the value of a table -/
def clV (c : Nat) (I : MI) (L : Nat → Nat → Nat) (K : Nat → Nat) (b : Nat → Int32) (W : Nat → Bool) (i : Nat) : Bool := bt (b i) (vb (fun j => lv c I W i (L i j)) (K i))
theorem vb_cg {f g : Nat → Bool} : ∀ k, (∀ j, j < k → f j = g j) → vb f k = vb g k := by
  intro k
  induction k with
  | zero => intro _; rfl
  | succ k ih =>
    intro h
    show (if f k = true then vb f k ||| 2 ^ k else vb f k) = (if g k = true then vb g k ||| 2 ^ k else vb g k)
    rw [ih (fun j hj => h j (by omega)), h k (by omega)]
theorem clV_dep {c : Nat} {I : MI} {L : Nat → Nat → Nat} {K : Nat → Nat} {b : Nat → Int32} (i : Nat) (W W' : Nat → Bool) (h : ∀ j, (j < i ∨ ¬ tabG c I j = true) → W j = W' j) : clV c I L K b W i = clV c I L K b W' i := by
  unfold clV
  rw [vb_cg (g := fun j => lv c I W' i (L i j)) (K i) (fun j _ => ?_)]
  unfold lv
  by_cases hd : L i j < c ∧ thg I (L i j) ∧ (¬ I 45 (L i j) = 2 ∨ L i j < i)
  · rw [h (L i j) ?_]
    rcases hd.2.2 with z | z
    · exact Or.inr (fun q => z (of_decide_eq_true q).2.1)
    · exact Or.inl z
  · rw [decide_eq_false hd]
    rfl
/-- the class: a letter's value -/
theorem lval_ok (n : Nat) {c l : Nat} (hc : c ≤ 32) (hl : l < 256) (M : MI) (J : MJ) (h5 : M 1 5 = nI c) {v : Bool} (h0 : ¬ l < c → v = false) (h1 : l < c → bt (M 40 l) 0 = v) : fX6_letterValue n (nI l) M J = some (bi v, M, J) := by
  unfold fX6_letterValue
  by_cases h : l < c
  · rw [has_yes (by omega) h5 h]
    simp only [Option.bind_some]
    rw [if_neg (by decide), if_pos (inb_nI (by omega) (by decide)), clampI (by omega), and1I, h1 h]
  · rw [has_no (by omega) h5 (fun ⟨o, o1, o2⟩ => h (by rw [(nI_eq (by omega) (by omega)).mp o2]; exact o1)), h0 h]
    simp only [Option.bind_some, if_true]
    rfl
theorem or_z (x : Int32) : x ||| 0 = x := by
  apply b_ext
  intro i hi
  rw [b_or, b_0, Bool.or_false]
theorem tval_ok (n : Nat) (hn : 2400 < n) {i k : Nat} (hi : i < 32) (hk : k ≤ 4) (M : MI) (J : MJ) (h12 : M 12 i = nI k) {ℓ : Nat → Nat} {f : Nat → Bool} {b : Int32} (hL : ∀ j, j < k → fX1_letterThere n (nI i) (nI j) M J = some (nI (ℓ j), M, J)) (hv : ∀ j, j < k → fX6_letterValue n (nI (ℓ j)) M J = some (bi (f j), M, J)) (hb : fX1_bitsThere n (nI i) M J = some (b, M, J)) : fX6_tableValue n (nI i) M J = some (bi (bt b (vb f k)), M, J) := by
  have l : ∀ q j, j ≤ k → k < q + j → lX6_tableValue_6 n q (nI i) (nI (vb f j)) (nI j) M J = some (bi (bt b (vb f k)), M, J) := by
    intro q
    induction q with
    | zero => intro j h1 h2; omega
    | succ q ih =>
      intro j h1 h2
      have e : lX6_tableValue_6 n (q + 1) (nI i) (nI (vb f j)) (nI j) M J = fX6_tableValue_6 n (lX6_tableValue_6 n q) (nI i) (nI (vb f j)) (nI j) M J := rfl
      rw [e]
      unfold fX6_tableValue_6
      rw [if_pos (inb_nI hi (by decide)), clampI (by omega), h12]
      by_cases hj : j = k
      · subst hj
        have hlt := vb_lt f j
        have h16 : 2 ^ j ≤ 2 ^ 4 := Nat.pow_le_pow_right (by decide) hk
        rw [if_pos (Int32.le_refl _), hb]
        simp only [Option.bind_some]
        rw [ushrI_1 b (by omega)]
        rfl
      · rw [if_neg (nI_ge (by omega) (by omega)), hL j (by omega)]
        simp only [Option.bind_some]
        rw [hv j (by omega)]
        simp only [Option.bind_some, lt]
        rw [bi_sh _ (by omega), vb_step, nI_1]
        exact ih (j + 1) (by omega) (by omega)
  exact l n 0 (Nat.zero_le _) (by omega)
/-- the class: the tables of its cloth -/
theorem scC_ok (n : Nat) (hn : 2400 < n) {c : Nat} (hc : c ≤ 32) (I0 I : MI) (J : MJ) {L : Nat → Nat → Nat} {K : Nat → Nat} {b : Nat → Int32} (hT : clT n c I0 J L K b) (h5 : I 1 5 = nI c) (hcells : I 12 = I0 12 ∧ I 35 = I0 35 ∧ I 37 = I0 37) (h11 : ∀ i, i < c → bt (I 11 6) i = tabG c I0 i) {U : Nat → Bool} (hU0 : ∀ i, i < c → I0 45 i = 2 → I0 55 i = 0 → U i = false) (hU1 : ∀ i, i < c → tabG c I0 i = true → U i = clV c I0 L K b U i) (h40 : ∀ i, i < c → bt (I 40 i) 0 = if tabG c I0 i = true then false else U i) : ∃ I', lX6_stepCloth_13 n n 0 I J = Option.bind (fX6_outsOf n 40 I' J) (fun r59 => lt (upM r59.2.1 38 2 r59.1) (fun I62 => lX6_stepCloth_71 n n 0 0 I62 r59.2.2)) ∧ (∀ a, a ≠ 40 → I' a = I a) ∧ (∀ i, i < c → bt (I' 40 i) 0 = U i) ∧ ∀ i, (i < c → ¬ tabG c I0 i = true) → I' 40 i = I 40 i := by
  have l : ∀ q k I1, k ≤ c → c < q + k → (∀ a, a ≠ 40 → I1 a = I a) → (∀ i, i < c → bt (I1 40 i) 0 = if tabG c I0 i = true ∧ k ≤ i then false else U i) → (∀ i, (i < c → ¬ tabG c I0 i = true) → I1 40 i = I 40 i) → ∃ I', lX6_stepCloth_13 n q (nI k) I1 J = Option.bind (fX6_outsOf n 40 I' J) (fun r59 => lt (upM r59.2.1 38 2 r59.1) (fun I62 => lX6_stepCloth_71 n n 0 0 I62 r59.2.2)) ∧ (∀ a, a ≠ 40 → I' a = I a) ∧ (∀ i, i < c → bt (I' 40 i) 0 = U i) ∧ ∀ i, (i < c → ¬ tabG c I0 i = true) → I' 40 i = I 40 i := by
    intro q
    induction q with
    | zero => intro k I1 h1 h2; omega
    | succ q ih =>
      intro k I1 h1 h2 f1 f2 f3
      have e : lX6_stepCloth_13 n (q + 1) (nI k) I1 J = fX6_stepCloth_13 n (lX6_stepCloth_13 n q) (nI k) I1 J := rfl
      rw [e]
      unfold fX6_stepCloth_13 fX6_stepCloth_47
      rw [f1 1 (by decide), h5]
      by_cases hk : k = c
      · subst hk
        rw [if_pos (Int32.le_refl _)]
        refine ⟨I1, rfl, f1, fun i hi => ?_, f3⟩
        rw [f2 i hi, if_neg (fun z => by omega)]
      have hkc : k < c := by omega
      rw [if_neg (nI_ge (by omega) (by omega)), isTable_eq n (by omega), f1 11 (by decide), h11 k hkc, nI_1]
      simp only [Option.bind_some]
      by_cases hG : tabG c I0 k = true
      · have hg := of_decide_eq_true hG
        obtain ⟨k4, e12, e57, hl, hb1, hb2⟩ := hT.2 k hkc hg.2.1 hg.2.2
        have hlv : ∀ l, l < 256 → fX6_letterValue n (nI l) I1 J = some (bi (lv c I0 U k l), I1, J) := by
          intro l hl'
          refine lval_ok n hc hl' I1 J (by rw [f1 1 (by decide)]; exact h5) (fun z => ?_) (fun z => ?_)
          · unfold lv
            rw [decide_eq_false (fun q => z q.1)]; rfl
          · rw [f2 l z]
            unfold lv
            by_cases ht : thg I0 l
            · by_cases hg2 : ¬ I0 45 l = 2 ∨ l < k
              · rw [if_neg (fun q => by rcases hg2 with y | y; exact y (of_decide_eq_true q.1).2.1; omega), decide_eq_true ⟨z, ht, hg2⟩, Bool.true_and]
              · rw [if_pos ⟨decide_eq_true ⟨z, Classical.byContradiction (fun y => hg2 (Or.inl y)), (ht.resolve_left (fun y => hg2 (Or.inl y)))⟩, Nat.le_of_not_lt (fun y => hg2 (Or.inr y))⟩, decide_eq_false (fun q => hg2 q.2.2)]
                rfl
            · have t1 : I0 45 l = 2 := Classical.byContradiction (fun y => ht (Or.inl y))
              have t2 : I0 55 l = 0 := Classical.byContradiction (fun y => ht (Or.inr y))
              rw [if_neg (fun q => (of_decide_eq_true q.1).2.2 t2), hU0 l z t1 t2, Bool.and_false]
        have htv := tval_ok n hn (show k < 32 by omega) k4 I1 J (by rw [f1 12 (by decide), hcells.1]; exact e12) (f := fun j => lv c I0 U k (L k j)) (fun j hj => (hl j hj).2.1 I1 (by rw [f1 35 (by decide)]; exact hcells.2.1) (by rw [f1 37 (by decide)]; exact hcells.2.2)) (fun j hj => hlv _ (hl j hj).1) (hb1 I1 (by rw [f1 12 (by decide)]; exact hcells.1) (by rw [f1 35 (by decide)]; exact hcells.2.1) (by rw [f1 37 (by decide)]; exact hcells.2.2))
        have hval : bt (b k) (vb (fun j => lv c I0 U k (L k j)) (K k)) = U k := (hU1 k hkc hG).symm
        rw [hval] at htv
        rw [b2_t hG, if_neg (by decide), htv]
        simp only [Option.bind_some]
        rw [if_pos (inb_nI (by omega) (by decide)), clampI (by omega)]
        simp only [lt]
        refine ih (k + 1) _ (by omega) (by omega) (fun a ha => by rw [upM_ne a ha]; exact f1 a ha) (fun i hi => ?_) (fun i hi => ?_)
        · rw [upM_get, if_pos rfl]
          by_cases hq : i = k
          · rw [if_pos hq, hq, if_neg (fun z => by omega), bt_bi]
          · have : (k + 1 ≤ i) ↔ k ≤ i := by omega
            rw [if_neg hq, f2 i hi]
            simp only [this]
        · rw [upM_get, if_pos rfl, if_neg (fun z => hi (by omega) (by rw [z]; exact hG))]
          exact f3 i hi
      · rw [b2_f hG, if_pos rfl]
        refine ih (k + 1) I1 (by omega) (by omega) f1 (fun i hi => ?_) f3
        rw [f2 i hi]
        by_cases hq : i = k
        · rw [if_neg (fun z => hG (by rw [← hq]; exact z.1)), if_neg (fun z => hG (by rw [← hq]; exact z.1))]
        · have : (k + 1 ≤ i) ↔ k ≤ i := by omega
          simp only [this]
  exact l n 0 I (Nat.zero_le _) (by omega) (fun _ _ => rfl) (fun i hi => by rw [h40 i hi]; simp only [Nat.zero_le, and_true]) (fun _ _ => rfl)
