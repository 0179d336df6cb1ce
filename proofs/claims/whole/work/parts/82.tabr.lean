/-! the reference finds its tables -/
theorem isOf_eq (n : Nat) {x : Nat} (hx : x < 64) {v : Bool} (I : MI) (J : MJ) (h : I 59 (x / 2) = bi v) : fX10_isOf n (nI x) I J = some (bi (v ^^ x.testBit 0), I, J) := by
  have e2 : nI x / 2 = nI (x / 2) := pk_div (d := 2) (by omega) (by decide) (by decide)
  have e3 : nI x - nI (x / 2) * 2 = nI (x % 2) := by
    rw [show (2 : Int32) = nI 2 from rfl, pk_mul, pk_sub (by omega)]
    congr 1
    omega
  unfold fX10_isOf fX10_isOf_20
  rw [e2, e3, if_pos (inb_nI (by omega) (by decide)), clampI (by omega), h, Nat.testBit_zero]
  rcases Nat.mod_two_eq_zero_or_one x with q | q
  · rw [q, if_neg (by decide)]
    cases v <;> rfl
  · rw [q, if_pos (by decide)]
    cases v <;> rfl
theorem gateOf_eq (n : Nat) {o : Nat} (ho : o < 3) (a b : Bool) (I : MI) (J : MJ) : fX10_gateOf n (nI o) (bi a) (bi b) I J = some (bi (opB o a b), I, J) := by
  have hoc : o = 0 ∨ o = 1 ∨ o = 2 := by omega
  unfold fX10_gateOf fX10_gateOf_16 fX10_gateOf_33
  rcases hoc with rfl | rfl | rfl <;> cases a <;> cases b <;> rfl
theorem sh_bit : ∀ i, i < 16 → ∀ j, j < 4 → decide (((nI i >>> (nI j &&& 31)) &&& 1) = 1) = i.testBit j := by decide +kernel
/-- the letters of a gate's cone as the reference holds them -/
def lettersAt (I : MI) (g s : Nat) : Prop := I 57 g = nI (ct_pop 32 s) ∧ ∀ i, i < g → s.testBit i = true → I 56 (4 * g + ct_pop i s) = nI i
/-- one cell's letters: j letters are looked at -/
theorem fb_let (n : Nat) (hn : 2400 < n) {g s c i : Nat} (hg : g < 32) (hc : c ≤ g) (hi : i < 16) (hs : s < 2 ^ g) (h4 : ct_pop 32 s ≤ 4) (k4 : Int32 → Int32 → Int32 → MI → MJ → Option M2) (k13 : Int32 → Int32 → Int32 → Int32 → MI → MJ → Option M2) (x2 : Int32) (I0 : MI) (J : MJ) (hl : lettersAt I0 g s) (v0 : Bool) : ∀ q j I, j ≤ ct_pop 32 s → ct_pop 32 s < q + j → (∀ a b, (a ≠ 59 ∨ b ≠ c) → I a b = I0 a b) → I 59 c = bi (if s.testBit c = true ∧ ct_pop c s < j then i.testBit (ct_pop c s) else v0) → ∃ I', lX10_findBits_80 n k4 k13 q (nI g) x2 (nI i) (nI c) (nI j) I J = k13 (nI g) x2 (nI i) (nI (c + 1)) I' J ∧ (∀ a b, (a ≠ 59 ∨ b ≠ c) → I' a b = I0 a b) ∧ I' 59 c = bi (if s.testBit c = true then i.testBit (ct_pop c s) else v0) := by
  obtain ⟨l1, l2⟩ := hl
  have hfin : ∀ z : Nat, (z = ct_pop 32 s ∨ c = g) → (if s.testBit c = true ∧ ct_pop c s < z then i.testBit (ct_pop c s) else v0) = (if s.testBit c = true then i.testBit (ct_pop c s) else v0) := by
    intro z hz
    by_cases hb : s.testBit c = true
    · rcases hz with hz | hz
      · rw [if_pos hb, if_pos ⟨hb, by rw [hz]; exact ct_pop_lt hb (by omega)⟩]
      · rw [hz, ct_tb hs (Nat.le_refl _)] at hb
        cases hb
    · rw [if_neg hb, if_neg (fun q => hb q.1)]
  intro q
  induction q with
  | zero => intro j I h1 h2; omega
  | succ q ih =>
    intro j I h1 h2 fr hv
    have e : lX10_findBits_80 n k4 k13 (q + 1) (nI g) x2 (nI i) (nI c) (nI j) I J = fX10_findBits_80 n k4 k13 (lX10_findBits_80 n k4 k13 q) (nI g) x2 (nI i) (nI c) (nI j) I J := rfl
    rw [e]
    unfold fX10_findBits_80 fX10_findBits_141 fX10_findBits_134 fX10_findBits_135
    rw [if_pos (inb_nI (by omega) (by decide)), clampI (by omega), fr 57 g (Or.inl (by decide)), l1, nI_1, nI_1]
    by_cases hj : j = ct_pop 32 s
    · rw [if_pos (nI_le (by omega) (by omega))]
      exact ⟨I, rfl, fr, by rw [hv, hfin j (Or.inl hj)]⟩
    rw [if_neg (nI_ge (by omega) (by omega))]
    by_cases hcg : c = g
    · rw [if_pos (nI_le (by omega) (by omega))]
      exact ⟨I, rfl, fr, by rw [hv, hfin j (Or.inr hcg)]⟩
    have e4 : (4 : Int32) * nI g + nI j = nI (4 * g + j) := by rw [show (4 : Int32) = nI 4 from rfl, pk_mul, nI_add]
    have hpg : ct_pop g s = ct_pop 32 s := (ct_pop_ext hs 32 (by omega)).symm
    obtain ⟨l, hl1, hl2, hl3⟩ := ct_pop_at s g j (by rw [hpg]; omega)
    rw [if_neg (nI_ge (by omega) (by omega)), e4, if_pos (inb_nI (by omega) (by decide)), clampI (by omega), fr 56 _ (Or.inl (by decide)), ← hl3, l2 l hl1 hl2, hl3]
    by_cases hlc : l = c
    · subst hlc
      rw [if_pos rfl]
      have hsb := sh_bit i hi j (by omega)
      have put : ∀ w : Bool, i.testBit j = w → ∃ I', (if inb (nI l) 32 = true then lt (upM I 59 (nI l).toNatClampNeg (bz (bi w))) fun I134 => lX10_findBits_80 n k4 k13 q (nI g) x2 (nI i) (nI l) (nI (j + 1)) I134 J else none) = k13 (nI g) x2 (nI i) (nI (l + 1)) I' J ∧ (∀ a b, (a ≠ 59 ∨ b ≠ l) → I' a b = I0 a b) ∧ I' 59 l = bi (if s.testBit l = true then i.testBit (ct_pop l s) else v0) := by
        intro w hw
        rw [if_pos (inb_nI (by omega) (by decide)), clampI (by omega), bi_z]
        refine ih (j + 1) _ (by omega) (by omega) (fun a b hab => ?_) ?_
        · rw [upM_get]
          by_cases ha : a = 59
          · rw [if_pos ha, if_neg (by omega)]; exact fr a b hab
          · rw [if_neg ha]; exact fr a b hab
        · rw [upM_get, if_pos rfl, if_pos rfl, if_pos ⟨hl2, by omega⟩, hl3, hw]
      by_cases hbit : ((nI i >>> (nI j &&& 31)) &&& 1) = 1
      · rw [if_pos hbit]
        rw [decide_eq_true hbit] at hsb
        exact put true hsb.symm
      · rw [if_neg hbit]
        rw [decide_eq_false hbit] at hsb
        exact put false hsb.symm
    · rw [if_neg (fun z => hlc ((nI_eq (by omega) (by omega)).mp z))]
      refine ih (j + 1) I (by omega) (by omega) fr ?_
      rw [hv]
      by_cases hb : s.testBit c = true
      · have hne : ct_pop c s ≠ j := by
          intro he
          rcases Nat.lt_trichotomy l c with z | z | z
          · have := ct_pop_lt hl2 z; omega
          · exact hlc z
          · have := ct_pop_lt hb z; omega
        by_cases hlt : ct_pop c s < j
        · rw [if_pos ⟨hb, hlt⟩, if_pos ⟨hb, by omega⟩]
        · rw [if_neg (fun z => hlt z.2), if_neg (fun z => by have := z.2; omega)]
      · rw [if_neg (fun z => hb z.1), if_neg (fun z => hb z.1)]
theorem f13_raw (n : Nat) {k4 : Int32 → Int32 → Int32 → MI → MJ → Option M2} {k13 : Int32 → Int32 → Int32 → Int32 → MI → MJ → Option M2} {x1 x2 x3 x4 : Int32} {w : Bool} {I : MI} {J : MJ} (h0 : ¬ x1 < x4) (h1 : inb x4 32 = true) (h2 : (¬ I 45 x4.toNatClampNeg = 2 ∧ w = false) ∨ (I 45 x4.toNatClampNeg = 2 ∧ ∃ a b : Bool, fX10_isOf n (I 46 x4.toNatClampNeg) I J = some (bi a, I, J) ∧ fX10_isOf n (I 47 x4.toNatClampNeg) I J = some (bi b, I, J) ∧ fX10_gateOf n (I 48 x4.toNatClampNeg) (bi a) (bi b) I J = some (bi w, I, J))) : fX10_findBits_13 n k4 k13 x1 x2 x3 x4 I J = lX10_findBits_80 n k4 k13 n x1 x2 x3 x4 0 (upM I 59 x4.toNatClampNeg (bi w)) J := by
  unfold fX10_findBits_13 fX10_findBits_75 fX10_findBits_76
  rw [if_neg h0, if_pos h1]
  rcases h2 with ⟨h2, rfl⟩ | ⟨h2, a, b, h3, h4, h5⟩
  · rw [if_neg h2, if_pos h1]
    rfl
  · rw [if_pos h2, if_pos h1, if_pos h1, h3]
    simp only [Option.bind_some]
    rw [if_pos h1, h4]
    simp only [Option.bind_some]
    rw [h5]
    simp only [Option.bind_some]
    cases w
    · rw [if_pos (by decide), if_pos h1]
      rfl
    · rw [if_neg (by decide), if_pos h1]
      rfl
theorem fb_cell (n : Nat) (hn : 2400 < n) {g s i : Nat} (hg : g < 32) (hi : i < 16) (hs : s < 2 ^ g) (h4 : ct_pop 32 s ≤ 4) (k4 : Int32 → Int32 → Int32 → MI → MJ → Option M2) (x2 : Int32) (I0 : MI) (J : MJ) (hl : lettersAt I0 g s) (hcell : ∀ c, c ≤ g → I0 45 c = I0 2 c ∧ I0 46 c = I0 3 c ∧ I0 47 c = I0 4 c ∧ (I0 2 c = 2 → I0 48 c = I0 5 c)) (hin : ∀ c, c ≤ g → gateIn I0 c) {V : Nat → Nat → Bool} (hV : valOk I0 g s V) : ∀ q c I, c ≤ g + 1 → g + 1 < q + c → (∀ a, a ≠ 59 → I a = I0 a) → (∀ z, z < c → I 59 z = bi (V i z)) → ∃ I', lX10_findBits_13 n k4 q (nI g) x2 (nI i) (nI c) I J = k4 (nI g) (x2 ||| (if V i g = true then (1 : Int32) <<< (nI i &&& 31) else 0)) (nI (i + 1)) I' J ∧ (∀ a, a ≠ 59 → I' a = I0 a) := by
  intro q
  induction q with
  | zero => intro c I h1 h2; omega
  | succ q ih =>
    intro c I h1 h2 fr hv
    have e : lX10_findBits_13 n k4 (q + 1) (nI g) x2 (nI i) (nI c) I J = fX10_findBits_13 n k4 (lX10_findBits_13 n k4 q) (nI g) x2 (nI i) (nI c) I J := rfl
    rw [e]
    by_cases hc : c = g + 1
    · subst hc
      unfold fX10_findBits_13 fX10_findBits_164
      rw [if_pos (nI_lt (by omega) (by omega)), if_pos (inb_nI (by omega) (by decide)), clampI (by omega), hv g (by omega), nI_1]
      by_cases hb : V i g = true
      · rw [if_neg (by rw [hb]; decide), if_pos hb]
        exact ⟨I, rfl, fr⟩
      · rw [if_pos (bi_0.mpr (by cases h : V i g <;> simp_all)), if_neg hb]
        exact ⟨I, rfl, fr⟩
    have hcg : c ≤ g := by omega
    obtain ⟨c45, c46, c47, c48⟩ := hcell c hcg
    obtain ⟨w, hw1, hw2⟩ : ∃ w : Bool, (if s.testBit c = true then i.testBit (ct_pop c s) else w) = V i c ∧ ((¬ I 45 (nI c).toNatClampNeg = 2 ∧ w = false) ∨ (I 45 (nI c).toNatClampNeg = 2 ∧ ∃ a b : Bool, fX10_isOf n (I 46 (nI c).toNatClampNeg) I J = some (bi a, I, J) ∧ fX10_isOf n (I 47 (nI c).toNatClampNeg) I J = some (bi b, I, J) ∧ fX10_gateOf n (I 48 (nI c).toNatClampNeg) (bi a) (bi b) I J = some (bi w, I, J))) := by
      rw [clampI (by omega), fr 45 (by decide), fr 46 (by decide), fr 47 (by decide), fr 48 (by decide), c45, c46, c47, hV i hi c hcg]
      unfold valR
      by_cases hs2 : I0 2 c = 2
      · obtain ⟨x, y, o, hx, hy, ho, e3, e4, e5⟩ := hin c hcg hs2
        refine ⟨opB o (V i (x / 2) ^^ x.testBit 0) (V i (y / 2) ^^ y.testBit 0), ?_, Or.inr ⟨hs2, V i (x / 2) ^^ x.testBit 0, V i (y / 2) ^^ y.testBit 0, ?_, ?_, ?_⟩⟩
        · rw [if_pos hs2, e3, e4, e5, nI_clamp (by omega), nI_clamp (by omega), nI_clamp (by omega)]
        · rw [e3]; exact isOf_eq n (by omega) I J (hv (x / 2) (by omega))
        · rw [e4]; exact isOf_eq n (by omega) I J (hv (y / 2) (by omega))
        · rw [c48 hs2, e5]; exact gateOf_eq n ho _ _ I J
      · exact ⟨false, by rw [if_neg hs2], Or.inl ⟨hs2, rfl⟩⟩
    rw [f13_raw n (nI_nlt (by omega) (by omega)) (inb_nI (by omega) (by decide)) hw2, clampI (by omega)]
    have hl' : lettersAt (upM I 59 c (bi w)) g s := by
      unfold lettersAt
      rw [upM_ne 57 (by decide), upM_ne 56 (by decide), fr 57 (by decide), fr 56 (by decide)]
      exact hl
    obtain ⟨I1, j1, j2, j3⟩ := fb_let n hn hg hcg hi hs h4 k4 (lX10_findBits_13 n k4 q) x2 (upM I 59 c (bi w)) J hl' w n 0 (upM I 59 c (bi w)) (Nat.zero_le _) (by omega) (fun _ _ _ => rfl) (by rw [upM_get, if_pos rfl, if_pos rfl, if_neg (fun z => absurd z.2 (Nat.not_lt_zero _))])
    have j1' : lX10_findBits_80 n k4 (lX10_findBits_13 n k4 q) n (nI g) x2 (nI i) (nI c) 0 (upM I 59 c (bi w)) J = _ := j1
    rw [j1']
    refine ih (c + 1) I1 (by omega) (by omega) (fun a ha => ?_) (fun z hz => ?_)
    · funext b
      rw [j2 a b (Or.inl ha), upM_ne a ha, fr a ha]
    · by_cases hzc : z = c
      · rw [hzc, j3, hw1]
      · rw [j2 59 z (Or.inr hzc), upM_get, if_pos rfl, if_neg hzc]
        exact hv z (by omega)
theorem vb_lt (f : Nat → Bool) : ∀ k, vb f k < 2 ^ k := by
  intro k
  induction k with
  | zero => exact Nat.one_pos
  | succ k ih =>
    have h1 : vb f k < 2 ^ (k + 1) := Nat.lt_of_lt_of_le ih (Nat.pow_le_pow_right (by decide) (by omega))
    show (if f k = true then vb f k ||| 2 ^ k else vb f k) < 2 ^ (k + 1)
    by_cases h : f k = true
    · rw [if_pos h]
      exact Nat.or_lt_two_pow h1 (Nat.pow_lt_pow_right (by decide) (by omega))
    · rw [if_neg h]; exact h1
theorem findBits_ok (n : Nat) (hn : 2400 < n) {g s : Nat} (hg : g < 32) (hs : s < 2 ^ g) (h4 : ct_pop 32 s ≤ 4) (I0 : MI) (J : MJ) (hl : lettersAt I0 g s) (hcell : ∀ c, c ≤ g → I0 45 c = I0 2 c ∧ I0 46 c = I0 3 c ∧ I0 47 c = I0 4 c ∧ (I0 2 c = 2 → I0 48 c = I0 5 c)) (hin : ∀ c, c ≤ g → gateIn I0 c) {V : Nat → Nat → Bool} (hV : valOk I0 g s V) : ∃ I', fX10_findBits n (nI g) I0 J = some (upM I' 58 g (nI (vb (fun i => V i g) 16)), J) ∧ ∀ a, a ≠ 59 → I' a = I0 a := by
  have l : ∀ N, N = 16 → ∀ q i I, i ≤ N → N < q + i → (∀ a, a ≠ 59 → I a = I0 a) → ∃ I', lX10_findBits_4 n q (nI g) (nI (vb (fun i => V i g) i)) (nI i) I J = some (upM I' 58 g (nI (vb (fun i => V i g) N)), J) ∧ ∀ a, a ≠ 59 → I' a = I0 a := by
    intro N hN q
    induction q with
    | zero => intro i I h1 h2; omega
    | succ q ih =>
      intro i I h1 h2 fr
      have e : lX10_findBits_4 n (q + 1) (nI g) (nI (vb (fun i => V i g) i)) (nI i) I J = fX10_findBits_4 n (lX10_findBits_4 n q) (nI g) (nI (vb (fun i => V i g) i)) (nI i) I J := rfl
      rw [e]
      unfold fX10_findBits_4
      by_cases hi : i = N
      · rw [if_pos (show (16 : Int32) ≤ nI i from nI_le (a := 16) (by omega) (by omega)), if_pos (inb_nI (by omega) (by decide)), clampI (by omega), hi]
        exact ⟨I, rfl, fr⟩
      · rw [if_neg (show ¬ (16 : Int32) ≤ nI i from nI_ge (b := 16) (by omega) (by decide))]
        have hcell' : ∀ c, c ≤ g → I 45 c = I 2 c ∧ I 46 c = I 3 c ∧ I 47 c = I 4 c ∧ (I 2 c = 2 → I 48 c = I 5 c) := by
          intro c hc
          rw [fr 45 (by decide), fr 46 (by decide), fr 47 (by decide), fr 48 (by decide), fr 2 (by decide), fr 3 (by decide), fr 4 (by decide), fr 5 (by decide)]
          exact hcell c hc
        have hin' : ∀ c, c ≤ g → gateIn I c := by
          intro c hc
          unfold gateIn
          rw [fr 2 (by decide), fr 3 (by decide), fr 4 (by decide), fr 5 (by decide)]
          exact hin c hc
        have hV' : valOk I g s V := by
          intro z hz c hc
          rw [hV z hz c hc]
          exact (valR_fr (fun a ha => fr a (by simp only [List.mem_cons, List.not_mem_nil, or_false] at ha; omega))).symm
        have hl' : lettersAt I g s := by
          unfold lettersAt
          rw [fr 57 (by decide), fr 56 (by decide)]
          exact hl
        obtain ⟨I1, j1, j2⟩ := fb_cell n hn hg (show i < 16 by omega) hs h4 (lX10_findBits_4 n q) (nI (vb (fun i => V i g) i)) I J hl' hcell' hin' hV' n 0 I (Nat.zero_le _) (by omega) (fun _ _ => rfl) (fun z hz => absurd hz (Nat.not_lt_zero _))
        have j1' : lX10_findBits_13 n (lX10_findBits_4 n q) n (nI g) (nI (vb (fun i => V i g) i)) (nI i) 0 I J = _ := j1
        rw [j1']
        have eb : nI (vb (fun i => V i g) i) ||| (if V i g = true then (1 : Int32) <<< (nI i &&& 31) else 0) = nI (vb (fun i => V i g) (i + 1)) := by
          show _ = nI (if V i g = true then vb (fun i => V i g) i ||| 2 ^ i else vb (fun i => V i g) i)
          by_cases hb : V i g = true
          · rw [if_pos hb, if_pos hb, one_sh i (by omega), nI_or]
          · rw [if_neg hb, if_neg hb, show (0 : Int32) = nI 0 from rfl, nI_or, Nat.or_zero]
        rw [eb]
        exact ih (i + 1) I1 (by omega) (by omega) (fun a ha => by rw [j2 a ha]; exact fr a ha)
  exact l 16 rfl n 0 I0 (Nat.zero_le _) (by omega) (fun _ _ => rfl)
