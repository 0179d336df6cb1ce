/-! ways: the way back from an END -/
def isB (M : Nat) (lo hi p d : Nat → Nat) (t j o : Nat) : Prop := j < M ∧ inc lo hi j t o ∧ d o + p j = d t ∧ ∀ j' o', j' < M → inc lo hi j' t o' → d o' + p j' = d t → o ≤ o'
theorem min_ex {P : Nat → Prop} (h : ∃ o, P o) : ∃ o, P o ∧ ∀ o', P o' → o ≤ o' := by
  have l : ∀ k, (∃ o, o < k ∧ P o) → ∃ o, P o ∧ ∀ o', P o' → o ≤ o' := by
    intro k
    induction k with
    | zero => intro ⟨o, h1, _⟩; omega
    | succ k ih =>
      intro ⟨o, h1, h2⟩
      by_cases q : ∃ o, o < k ∧ P o
      · exact ih q
      · refine ⟨o, h2, fun o' ho' => ?_⟩
        by_cases z : o ≤ o'
        · exact z
        · exact absurd ⟨o', by omega, ho'⟩ q
  obtain ⟨o, ho⟩ := h
  exact l (o + 1) ⟨o, by omega, ho⟩
theorem isB_ex {M : Nat} {lo hi p d : Nat → Nat} {t : Nat} (h : ∃ j o, j < M ∧ inc lo hi j t o ∧ d t = d o + p j) : ∃ j o, isB M lo hi p d t j o := by
  obtain ⟨o, ⟨j, h1, h2, h3⟩, h4⟩ := min_ex (P := fun o => ∃ j, j < M ∧ inc lo hi j t o ∧ d t = d o + p j) (by
    obtain ⟨j, o, q⟩ := h
    exact ⟨o, j, q⟩)
  exact ⟨j, o, h1, h2, h3.symm, fun j' o' q1 q2 q3 => h4 o' ⟨j', q1, q2, q3.symm⟩⟩
theorem inc_u {lo hi : Nat → Nat} {j t o o' : Nat} (hne : lo j ≠ hi j) (h : inc lo hi j t o) (h' : inc lo hi j t o') : o = o' := by
  unfold inc at h h'
  omega
theorem beyond_ok (n : Nat) {N M j t o : Nat} {lo hi : Nat → Nat} (hN : N ≤ 36) (hM : M ≤ 60) (hg : ∀ j, j < M → lo j < N ∧ hi j < N ∧ lo j ≠ hi j) (hj : j < M) (h : inc lo hi j t o) (I : MI) (J : MJ) (h19 : I 19 j = nI (lo j)) (h20 : I 20 j = nI (hi j)) : fX2_beyondJoint n (nI j) (nI t) I J = some (nI o, I, J) := by
  obtain ⟨g1, g2, g3⟩ := hg j hj
  have ij : inb (nI j) 60 = true := inb_nI (by omega) (by decide)
  unfold fX2_beyondJoint
  rw [clampI (by omega), h19, h20]
  simp only [ij, if_true]
  rcases h with ⟨rfl, rfl⟩ | ⟨rfl, rfl⟩
  · rw [if_pos rfl]
  · rw [if_neg (fun z => g3 ((nI_eq (by omega) (by omega)).mp z))]
theorem jback_ok (n : Nat) (hn : 2400 < n) {N M t j o : Nat} {lo hi p d : Nat → Nat} (hN : N ≤ 36) (hM : M ≤ 60) (hg : ∀ j, j < M → lo j < N ∧ hi j < N ∧ lo j ≠ hi j) (I : MI) (J : MJ) (hA : gfA N M lo hi I) (hm : msC N M lo hi p I) (h33 : ∀ t, t < N → I 33 t = nI (d t)) (hd : ∀ t, t < N → d t ≤ 1000000000) (ht : t < N) (hB : isB M lo hi p d t j o) : fX2_jointBack n (nI t) 33 32 I J = some (nI j, I, J) := by
  obtain ⟨hj, hi1, hb, hmin⟩ := hB
  obtain ⟨k0, hk0, he0⟩ := hA.2.1 t ht j o hj hi1
  have a33 : alb 44 33 = 36 := aln_33
  have a32 : alb 44 32 = 60 := aln_32
  have it : inb (nI t) 36 = true := inb_nI (by omega) (by decide)
  have bt' := hd t ht
  have l : ∀ q k, k ≤ k0 → 4 < q + k → lX2_jointBack_3 n q (nI t) 33 32 (nI k) I J = some (nI j, I, J) := by
    intro q
    induction q with
    | zero => intro k h1 h2; omega
    | succ q ih =>
      intro k h1 h2
      have e : lX2_jointBack_3 n (q + 1) (nI t) 33 32 (nI k) I J = fX2_jointBack_3 n (lX2_jointBack_3 n q) (nI t) 33 32 (nI k) I J := rfl
      have e4 : nI t * 4 + nI k = nI (t * 4 + k) := by rw [show (4 : Int32) = nI 4 from rfl, pk_mul, nI_add]
      rw [e]
      unfold fX2_jointBack_3 fX2_jointBack_51
      rw [if_neg (show ¬ (4 : Int32) ≤ nI k from nI_ge (b := 4) (by omega) (by decide)), e4, if_pos (inb_nI (by omega) (by decide)), clampI (by omega), a33, a32, nI_1]
      simp only [lt]
      by_cases hk : k = k0
      · subst hk
        obtain ⟨-, ho, -⟩ := inc_N hg hj hi1
        obtain ⟨y1, y2, y3, y4⟩ := hm.2.2 j hj
        have io : inb (nI o) 36 = true := inb_nI (by omega) (by decide)
        have ij : inb (nI j) 60 = true := inb_nI (by omega) (by decide)
        rw [he0, if_neg (nI_m1 (by omega)), beyond_ok n hN hM hg hj hi1 I J y1 y2]
        simp only [Option.bind_some, io, ij, it, if_true]
        rw [clampI (show o < 2 ^ 31 by omega), clampI (show j < 2 ^ 31 by omega), clampI (show t < 2 ^ 31 by omega), h33 o ho, h33 t ht, y3, nI_add, hb, if_pos rfl]
      · rcases hA.1 t ht k (by omega) with q0 | ⟨j1, o1, q1, q2, q3⟩
        · rw [q0, if_pos rfl]
          exact ih (k + 1) (by omega) (by omega)
        · have hlt := hA.2.2 t ht k k0 j1 j o1 o (by omega) hk0 q1 hj q2 he0 q3 hi1
          obtain ⟨-, ho, -⟩ := inc_N hg q1 q3
          obtain ⟨y1, y2, y3, y4⟩ := hm.2.2 j1 q1
          have io : inb (nI o1) 36 = true := inb_nI (by omega) (by decide)
          have ij : inb (nI j1) 60 = true := inb_nI (by omega) (by decide)
          have bo := hd o1 ho
          rw [q2, if_neg (nI_m1 (by omega)), beyond_ok n hN hM hg q1 q3 I J y1 y2]
          simp only [Option.bind_some, io, ij, it, if_true]
          rw [clampI (show o1 < 2 ^ 31 by omega), clampI (show j1 < 2 ^ 31 by omega), clampI (show t < 2 ^ 31 by omega), h33 o1 ho, h33 t ht, y3, nI_add, if_neg (fun z => by
            have := hmin j1 o1 q1 q3 ((nI_eq (by omega) (by omega)).mp z)
            omega)]
          exact ih (k + 1) (by omega) (by omega)
  exact l n 0 (Nat.zero_le _) (by omega)
theorem bfrom_ok (n : Nat) (hn : 2400 < n) {N M w h t j o : Nat} {lo hi p d : Nat → Nat} (hN : N ≤ 36) (hM : M ≤ 60) (hg : ∀ j, j < M → lo j < N ∧ hi j < N ∧ lo j ≠ hi j) (hu : ∀ j j' t o, j < M → j' < M → inc lo hi j t o → inc lo hi j' t o → j = j') (hR : gfR n N M lo hi w h) (K : MI) (J : MJ) (e24 : K 44 24 = nI w) (e25 : K 44 25 = nI h) (hpr : ∀ j, j < M → fX10_price n (nI j) K J = some (nI (p j), K, J)) (hp : ∀ j, j < M → p j ≤ 1000000) (h65 : ∀ t, t < N → K 65 t = nI (d t)) (hd : ∀ t, t < N → d t ≤ 1000000000) (ht : t < N) (hB : isB M lo hi p d t j o) : fX10_backFrom n (nI t) K J = some (nI j, K, J) := by
  obtain ⟨hj, hi1, hb, hmin⟩ := hB
  obtain ⟨-, hoN, -⟩ := inc_N hg hj hi1
  obtain ⟨r1, r2, r3⟩ := hR K J e24 e25
  have it : inb (nI t) 36 = true := inb_nI (by omega) (by decide)
  have btt := hd t ht
  have l : ∀ q k x2 x3, k ≤ M → M < q + k → (k ≤ j → (x2 = -1 ∨ (¬ x2 < 0 ∧ ∃ o2, o < o2 ∧ o2 < N ∧ x3 = nI o2))) → (j < k → x2 = nI j ∧ x3 = nI o) → lX10_backFrom_7 n q (nI t) x2 x3 (nI k) K J = some (nI j, K, J) := by
    intro q
    induction q with
    | zero => intro k x2 x3 h1 h2; omega
    | succ q ih =>
      intro k x2 x3 h1 h2 ha hbb
      have e : lX10_backFrom_7 n (q + 1) (nI t) x2 x3 (nI k) K J = fX10_backFrom_7 n (lX10_backFrom_7 n q) (nI t) x2 x3 (nI k) K J := rfl
      rw [e]
      unfold fX10_backFrom_7
      rw [r2]
      simp only [Option.bind_some]
      by_cases hk : k = M
      · subst hk
        rw [if_pos (Int32.le_refl _), (hbb hj).1]
      have hkM : k < M := by omega
      obtain ⟨g1, g2, g3⟩ := hg k hkM
      have keep : (∀ o', inc lo hi k t o' → ¬ d o' + p k = d t) → lX10_backFrom_7 n q (nI t) x2 x3 (nI (k + 1)) K J = some (nI j, K, J) := by
        intro hno
        have hkj : k ≠ j := fun z => hno o (by rw [z]; exact hi1) (by rw [z]; exact hb)
        exact ih (k + 1) x2 x3 (by omega) (by omega) (fun z => ha (by omega)) (fun z => hbb (by omega))
      /- an incident joint -/
      have on : ∀ o', inc lo hi k t o' → fX10_backFrom_55 n (lX10_backFrom_7 n q) (nI t) x2 x3 (nI k) (nI o') K J = some (nI j, K, J) := by
        intro o' hi'
        obtain ⟨-, ho', -⟩ := inc_N hg hkM hi'
        have io : inb (nI o') 36 = true := inb_nI (by omega) (by decide)
        have bo := hd o' ho'
        have bp := hp k hkM
        unfold fX10_backFrom_55 fX10_backFrom_98 fX10_backFrom_104
        rw [if_neg (nI_pos (by omega)), if_pos io, hpr k hkM]
        simp only [Option.bind_some]
        rw [if_pos it, clampI (show o' < 2 ^ 31 by omega), clampI (show t < 2 ^ 31 by omega), h65 o' ho', h65 t ht, nI_add, nI_1]
        by_cases hT : d o' + p k = d t
        · rw [if_pos (by rw [hT])]
          have hoo := hmin k o' hkM hi' hT
          by_cases hkj : k = j
          · subst hkj
            have : o = o' := inc_u g3 hi1 hi'
            subst this
            rcases ha (Nat.le_refl _) with z | ⟨z1, o2, z2, z3, z4⟩
            · rw [if_pos (by rw [z]; decide)]
              exact ih (k + 1) _ _ (by omega) (by omega) (fun y => by omega) (fun _ => ⟨rfl, rfl⟩)
            · rw [if_neg z1, z4, if_pos (nI_le (by omega) (by omega))]
              exact ih (k + 1) _ _ (by omega) (by omega) (fun y => by omega) (fun _ => ⟨rfl, rfl⟩)
          · have hne : o ≠ o' := fun z => hkj (hu k j t o hkM hj (by rw [z]; exact hi') hi1)
            by_cases hlt : k < j
            · have st : lX10_backFrom_7 n q (nI t) (nI k) (nI o') (nI (k + 1)) K J = some (nI j, K, J) := ih (k + 1) _ _ (by omega) (by omega) (fun _ => Or.inr ⟨nI_pos (by omega), o', by omega, ho', rfl⟩) (fun y => by omega)
              have kp : lX10_backFrom_7 n q (nI t) x2 x3 (nI (k + 1)) K J = some (nI j, K, J) := ih (k + 1) _ _ (by omega) (by omega) (fun y => ha (by omega)) (fun y => by omega)
              by_cases z : x2 < 0
              · rw [if_pos z]; exact st
              · rw [if_neg z]
                by_cases z2 : nI o' ≤ x3
                · rw [if_pos z2]; exact st
                · rw [if_neg z2]; exact kp
            · obtain ⟨z1, z2⟩ := hbb (by omega)
              rw [if_neg (by rw [z1]; exact nI_pos (by omega)), if_neg (by rw [z2]; exact nI_ge (by omega) (by omega))]
              exact ih (k + 1) _ _ (by omega) (by omega) (fun y => by omega) (fun _ => ⟨z1, z2⟩)
        · rw [if_neg (fun z => hT ((nI_eq (by omega) (by omega)).mp z))]
          exact keep (fun o'' hi'' => by rw [← inc_u g3 hi' hi'']; exact hT)
      rw [if_neg (nI_ge (by omega) (by omega)), (r3 k hkM).1]
      simp only [Option.bind_some]
      by_cases c1 : lo k = t
      · rw [if_pos (by rw [c1]), (r3 k hkM).2]
        simp only [Option.bind_some]
        exact on (hi k) (Or.inl ⟨c1, rfl⟩)
      · rw [if_neg (fun z => c1 ((nI_eq (by omega) (by omega)).mp z)), (r3 k hkM).2]
        simp only [Option.bind_some]
        by_cases c2 : hi k = t
        · rw [if_pos (by rw [c2]), (r3 k hkM).1]
          simp only [Option.bind_some]
          exact on (lo k) (Or.inr ⟨c2, rfl⟩)
        · rw [if_neg (fun z => c2 ((nI_eq (by omega) (by omega)).mp z))]
          unfold fX10_backFrom_55 fX10_backFrom_104
          rw [if_pos (by decide), nI_1]
          exact keep (fun o' hi' => by
            rcases hi' with ⟨z, -⟩ | ⟨z, -⟩
            · exact absurd z c1
            · exact absurd z c2)
  exact l n 0 (-1) 0 (Nat.zero_le _) (by omega) (fun _ => Or.inl rfl) (fun z => absurd z (Nat.not_lt_zero _))
/-- the way back as a list of tiles and joints -/
def wlk (M : Nat) (lo hi p d : Nat → Nat) (S : Nat → Bool) : Nat → List (Nat × Nat) → Prop
  | t, [] => S t = true
  | t, x :: l => x.1 = t ∧ S t = false ∧ ∃ o, isB M lo hi p d t x.2 o ∧ wlk M lo hi p d S o l
theorem wlk_ex {N M : Nat} {lo hi p d : Nat → Nat} {S : Nat → Bool} {F : Nat} (hg : ∀ j, j < M → lo j < N ∧ hi j < N ∧ lo j ≠ hi j) (hp : ∀ j, j < M → 1 ≤ p j) (hD : isD N M lo hi (fun _ => True) p (fun t => S t = true) F d) (hF : ∀ t, t < N → d t < F) : ∀ k t, t < N → d t < k → ∃ l, wlk M lo hi p d S t l ∧ l.length ≤ rkD N d t := by
  intro k
  induction k with
  | zero => intro t _ h; omega
  | succ k ih =>
    intro t ht hk
    cases hS : S t with
    | true => exact ⟨[], hS, Nat.zero_le _⟩
    | false =>
      obtain ⟨j, o, q1, -, q3, q4⟩ := hD.2.2.2 t ht (show ¬ S t = true by rw [hS]; decide) (hF t ht)
      obtain ⟨j', o', hB⟩ := isB_ex (p := p) (d := d) ⟨j, o, q1, q3, q4⟩
      have ho := (inc_N hg hB.1 hB.2.1).2.1
      have hp1 := hp j' hB.1
      have hlt : d o' < d t := by have := hB.2.2.1; omega
      obtain ⟨l, l1, l2⟩ := ih o' ho (by omega)
      have := rkD_lt (N := N) ho hlt
      exact ⟨(t, j') :: l, ⟨rfl, hS, o', hB, l1⟩, by rw [List.length_cons]; omega⟩
/-! which wires have which joints -/
def addH (H : Nat → Nat → Bool) (i j : Nat) : Nat → Nat → Bool := fun a b => if a = i ∧ b = j then true else H a b
def addA (H : Nat → Nat → Bool) (i : Nat) : List Nat → Nat → Nat → Bool
  | [] => H
  | j :: l => addA (addH H i j) i l
def okA (M : Nat) (H : Nat → Nat → Bool) (i : Nat) : List Nat → Prop
  | [] => True
  | j :: l => j < M ∧ H i j = false ∧ okA M (addH H i j) i l
theorem addH_cnt {H : Nat → Nat → Bool} {i j : Nat} (b : Nat) (h : H i j = false) : ∀ c, ct_cnt (fun a => addH H i j a b) c = if i < c ∧ b = j then ct_cnt (fun a => H a b) c + 1 else ct_cnt (fun a => H a b) c := by
  intro c
  induction c with
  | zero => rw [if_neg (fun z => absurd z.1 (Nat.not_lt_zero _))]; rfl
  | succ c ih =>
    have e1 : ct_cnt (fun a => addH H i j a b) (c + 1) = if addH H i j c b = true then ct_cnt (fun a => addH H i j a b) c + 1 else ct_cnt (fun a => addH H i j a b) c := rfl
    have e2 : ct_cnt (fun a => H a b) (c + 1) = if H c b = true then ct_cnt (fun a => H a b) c + 1 else ct_cnt (fun a => H a b) c := rfl
    rw [e1, e2, ih]
    generalize ct_cnt (fun a => H a b) c = x
    by_cases hb : b = j
    · subst hb
      by_cases hc : c = i
      · subst hc
        have h1 : addH H c b c b = true := if_pos ⟨rfl, rfl⟩
        rw [h1, h]
        simp
      · have h1 : addH H i b c b = H c b := if_neg (fun z => hc z.1)
        rw [h1]
        by_cases hi : i < c
        · have hi' : i < c + 1 := by omega
          simp [hi, hi']
          split <;> rfl
        · have hi' : ¬ i < c + 1 := by omega
          simp [hi, hi']
    · have h1 : addH H i j c b = H c b := if_neg (fun z => hb z.2)
      rw [h1]
      simp [hb]
theorem addA_at {i : Nat} : ∀ (l : List Nat) (H : Nat → Nat → Bool) (a b : Nat), addA H i l a b = true ↔ H a b = true ∨ (a = i ∧ b ∈ l) := by
  intro l
  induction l with
  | nil => intro H a b; exact ⟨fun h => Or.inl h, fun h => h.elim id (fun z => absurd z.2 List.not_mem_nil)⟩
  | cons j l ih =>
    intro H a b
    have e : addA H i (j :: l) a b = addA (addH H i j) i l a b := rfl
    rw [e, ih]
    unfold addH
    by_cases q : a = i ∧ b = j
    · rw [if_pos q]
      exact ⟨fun _ => Or.inr ⟨q.1, by rw [q.2]; exact List.mem_cons_self ..⟩, fun _ => Or.inl rfl⟩
    · rw [if_neg q]
      constructor
      · rintro (z | ⟨z1, z2⟩)
        · exact Or.inl z
        · exact Or.inr ⟨z1, List.mem_cons_of_mem _ z2⟩
      · rintro (z | ⟨z1, z2⟩)
        · exact Or.inl z
        · rcases List.mem_cons.mp z2 with y | y
          · exact absurd ⟨z1, y⟩ q
          · exact Or.inr ⟨z1, y⟩
/-- a way that goes back takes no joint twice -/
theorem wlk_okA {N M : Nat} {lo hi p d : Nat → Nat} {S : Nat → Bool} {i : Nat} (hg : ∀ j, j < M → lo j < N ∧ hi j < N ∧ lo j ≠ hi j) (hp : ∀ j, j < M → 1 ≤ p j) : ∀ (l : List (Nat × Nat)) (t : Nat) (H : Nat → Nat → Bool), wlk M lo hi p d S t l → (∀ j, j < M → H i j = true → (S (lo j) = true ∧ S (hi j) = true) ∨ d t < d (lo j) ∨ d t < d (hi j)) → okA M H i (l.map (fun x => x.2)) := by
  intro l
  induction l with
  | nil => intro t H _ _; exact trivial
  | cons x l ih =>
    intro t H hw hinv
    obtain ⟨hx, hS, o, hB, hw'⟩ := hw
    obtain ⟨hj, hi1, hb, -⟩ := hB
    have hp1 := hp x.2 hj
    have hlt : d o < d t := by omega
    have hno : H i x.2 = false := by
      cases q : H i x.2 with
      | false => rfl
      | true =>
        exfalso
        rcases hinv x.2 hj q with ⟨z1, z2⟩ | z
        · rcases hi1 with ⟨y, -⟩ | ⟨y, -⟩
          · rw [y, hS] at z1; cases z1
          · rw [y, hS] at z2; cases z2
        · rcases hi1 with ⟨y1, y2⟩ | ⟨y1, y2⟩
          · rw [y1, y2] at z; omega
          · rw [y1, y2] at z; omega
    refine ⟨hj, hno, ih o (addH H i x.2) hw' (fun j hj' hH => ?_)⟩
    unfold addH at hH
    by_cases q : i = i ∧ j = x.2
    · right
      rw [q.2]
      rcases hi1 with ⟨y1, y2⟩ | ⟨y1, y2⟩
      · left; rw [y1]; exact hlt
      · right; rw [y1]; exact hlt
    · rw [if_neg q] at hH
      rcases hinv j hj' hH with z | z | z
      · exact Or.inl z
      · exact Or.inr (Or.inl (by omega))
      · exact Or.inr (Or.inr (by omega))
def wyC (I : MI) (J : MJ) (H : Nat → Nat → Bool) : Prop := (∀ j, j < 60 → I 29 j = nI (ct_cnt (fun i => H i j) 32)) ∧ ∀ i, i < 32 → ∀ j, j < 60 → bl (J 31 i) j = H i j
def wyR (K : MI) (H : Nat → Nat → Bool) : Prop := (∀ j, j < 60 → K 63 j = nI (ct_cnt (fun i => H i j) 32)) ∧ ∀ i, i < 32 → ∀ j, j < 60 → K 62 (60 * i + j) = bi (H i j)
theorem wyC_add {I I' : MI} {J J' : MJ} {H : Nat → Nat → Bool} {i j : Nat} (hi : i < 32) (hj : j < 60) (h0 : H i j = false) (h : wyC I J H) (h29 : ∀ b, I' 29 b = if b = j then I 29 j + 1 else I 29 b) (h31 : ∀ a, J' 31 a = if a = i then J 31 i ||| shlL 1 (nI j) else J 31 a) : wyC I' J' (addH H i j) := by
  refine ⟨fun b hb => ?_, fun a ha b hb => ?_⟩
  · rw [h29 b, addH_cnt b h0]
    by_cases q : b = j
    · rw [if_pos q, if_pos ⟨hi, q⟩, ← q, h.1 b hb, nI_1]
    · rw [if_neg q, if_neg (fun z => q z.2)]; exact h.1 b hb
  · rw [h31 a]
    have old := h.2 a ha b hb
    unfold addH
    by_cases q : a = i
    · subst q
      rw [if_pos rfl]
      have hput := bl_put (x := J 31 a) (t := j) (s := b) (by omega) (by omega)
      by_cases z : b = j
      · rw [if_pos ⟨rfl, z⟩]; exact hput.mpr (Or.inr z)
      · rw [if_neg (fun y => z y.2), ← old]
        cases q1 : bl (J 31 a) b with
        | true => exact hput.mpr (Or.inl q1)
        | false =>
          cases q2 : bl (J 31 a ||| shlL 1 (nI j)) b with
          | false => rfl
          | true =>
            rcases hput.mp q2 with y | y
            · rw [q1] at y; cases y
            · exact absurd y z
    · rw [if_neg q, if_neg (fun z => q z.1)]; exact old
theorem wyR_add {K K' : MI} {H : Nat → Nat → Bool} {i j : Nat} (hi : i < 32) (hj : j < 60) (h0 : H i j = false) (h : wyR K H) (h63 : ∀ b, K' 63 b = if b = j then K 63 j + 1 else K 63 b) (h62 : ∀ b, K' 62 b = if b = 60 * i + j then 1 else K 62 b) : wyR K' (addH H i j) := by
  refine ⟨fun b hb => ?_, fun a ha b hb => ?_⟩
  · rw [h63 b, addH_cnt b h0]
    by_cases q : b = j
    · rw [if_pos q, if_pos ⟨hi, q⟩, ← q, h.1 b hb, nI_1]
    · rw [if_neg q, if_neg (fun z => q z.2)]; exact h.1 b hb
  · rw [h62]
    unfold addH
    by_cases q : a = i ∧ b = j
    · rw [if_pos q, if_pos (by rw [q.1, q.2])]; rfl
    · rw [if_neg q, if_neg (fun z => q (by omega))]; exact h.2 a ha b hb
