/-! ways: one wire, from END to END -/
theorem rch_mono {lo hi : Nat → Int32} {A A' : Nat → Prop} {r : Int32} (h : ∀ j, A j → A' j) : ∀ k t, rch lo hi A r k t → rch lo hi A' r k t := by
  intro k
  induction k with
  | zero => intro t q; exact q
  | succ k ih =>
    intro t q
    rcases q with q | ⟨j, q1, q2⟩
    · exact Or.inl (ih t q)
    · refine Or.inr ⟨j, h j q1, ?_⟩
      rcases q2 with ⟨z1, z2⟩ | ⟨z1, z2⟩
      · exact Or.inl ⟨z1, ih _ z2⟩
      · exact Or.inr ⟨z1, ih _ z2⟩
/-- reached over joints of a wire -/
abbrev rcN (M : Nat) (lo hi : Nat → Nat) (H : Nat → Nat → Bool) (i r k t : Nat) : Prop := rch (fun j => nI (lo j)) (fun j => nI (hi j)) (fun j => j < M ∧ H i j = true) (nI r) k (nI t)
theorem rcN_step {M : Nat} {lo hi : Nat → Nat} {H : Nat → Nat → Bool} {i r k t j o : Nat} (hj : j < M) (hH : H i j = true) (h : inc lo hi j t o) (hr : rcN M lo hi H i r k o) : rcN M lo hi H i r (k + 1) t := by
  refine Or.inr ⟨j, ⟨hj, hH⟩, ?_⟩
  rcases h with ⟨z1, z2⟩ | ⟨z1, z2⟩
  · exact Or.inl ⟨congrArg nI z1, by show rch _ _ _ _ k (nI (hi j)); rw [z2]; exact hr⟩
  · exact Or.inr ⟨congrArg nI z1, by show rch _ _ _ _ k (nI (lo j)); rw [z2]; exact hr⟩
theorem wlk_in {M : Nat} {lo hi p d : Nat → Nat} {S : Nat → Bool} : ∀ (l : List (Nat × Nat)) (t : Nat), wlk M lo hi p d S t l → S t = true ∨ t ∈ l.map (fun x => x.1) := by
  intro l
  cases l with
  | nil => intro t h; exact Or.inl h
  | cons x l =>
    intro t h
    obtain ⟨hx, -⟩ := h
    exact Or.inr (by rw [List.map_cons, ← hx]; exact List.mem_cons_self ..)
theorem wlk_ends {M : Nat} {lo hi p d : Nat → Nat} {S : Nat → Bool} : ∀ (l : List (Nat × Nat)) (t : Nat), wlk M lo hi p d S t l → ∀ j, j ∈ l.map (fun x => x.2) → ∀ x, (x = lo j ∨ x = hi j) → S x = true ∨ x ∈ l.map (fun x => x.1) := by
  intro l
  induction l with
  | nil => intro t h j hj; exact absurd hj List.not_mem_nil
  | cons y l ih =>
    intro t h j hj x hx
    obtain ⟨hy, hS, o, hB, hw⟩ := h
    rw [List.map_cons] at hj ⊢
    rcases List.mem_cons.mp hj with q | q
    · have hj' : j = y.2 := q
      subst hj'
      have hto : x = t ∨ x = o := by
        rcases hB.2.1 with ⟨z1, z2⟩ | ⟨z1, z2⟩
        · rw [z1, z2] at hx; exact hx
        · rw [z1, z2] at hx; exact hx.symm
      rcases hto with z | z
      · exact Or.inr (by rw [z, ← hy]; exact List.mem_cons_self ..)
      · rcases wlk_in l o hw with w | w
        · exact Or.inl (by rw [z]; exact w)
        · exact Or.inr (by rw [z]; exact List.mem_cons_of_mem _ w)
    · rcases ih o hw j q x hx with w | w
      · exact Or.inl w
      · exact Or.inr (List.mem_cons_of_mem _ w)
theorem wlk_rch {N M : Nat} {lo hi p d : Nat → Nat} {S : Nat → Bool} {H : Nat → Nat → Bool} {i r : Nat} (hg : ∀ j, j < M → lo j < N ∧ hi j < N ∧ lo j ≠ hi j) (hS : ∀ t, t < N → S t = true → ∃ k, rcN M lo hi H i r k t) : ∀ (l : List (Nat × Nat)) (t : Nat), t < N → wlk M lo hi p d S t l → (∀ j, j ∈ l.map (fun x => x.2) → H i j = true) → (∃ k, rcN M lo hi H i r k t) ∧ ∀ x, x ∈ l.map (fun x => x.1) → ∃ k, rcN M lo hi H i r k x := by
  intro l
  induction l with
  | nil => intro t ht h _; exact ⟨hS t ht h, fun x hx => absurd hx List.not_mem_nil⟩
  | cons y l ih =>
    intro t ht h hA
    obtain ⟨hy, -, o, hB, hw⟩ := h
    have ho := (inc_N hg hB.1 hB.2.1).2.1
    obtain ⟨⟨k, hk⟩, h2⟩ := ih o ho hw (fun j hj => hA j (by rw [List.map_cons]; exact List.mem_cons_of_mem _ hj))
    have htr : ∃ k, rcN M lo hi H i r k t := ⟨k + 1, rcN_step hB.1 (hA y.2 (by rw [List.map_cons]; exact List.mem_cons_self ..)) hB.2.1 hk⟩
    refine ⟨htr, fun x hx => ?_⟩
    rw [List.map_cons] at hx
    rcases List.mem_cons.mp hx with q | q
    · have hxt : x = t := q.trans hy
      rw [hxt]; exact htr
    · exact h2 x q
theorem wlk_p {M : Nat} {lo hi p p' d : Nat → Nat} {S : Nat → Bool} (h : ∀ j, j < M → ∀ t o, inc lo hi j t o → S t = false → p' j = p j) : ∀ (l : List (Nat × Nat)) (t : Nat), wlk M lo hi p d S t l → wlk M lo hi p' d S t l := by
  intro l
  induction l with
  | nil => intro t q; exact q
  | cons y l ih =>
    intro t q
    obtain ⟨hy, hS, o, ⟨b1, b2, b3, b4⟩, hw⟩ := q
    exact ⟨hy, hS, o, ⟨b1, b2, by rw [h _ b1 t o b2 hS]; exact b3, fun j' o' q1 q2 q3 => b4 j' o' q1 q2 (by rw [← h j' q1 t o' q2 hS]; exact q3)⟩, ih o hw⟩
theorem isD_p {N M : Nat} {lo hi p p' d : Nat → Nat} {S : Nat → Bool} {F : Nat} (hg : ∀ j, j < M → lo j < N ∧ hi j < N ∧ lo j ≠ hi j) (h : ∀ j, j < M → ∀ t o, inc lo hi j t o → S t = false → p' j = p j) (hD : isD N M lo hi (fun _ => True) p (fun t => S t = true) F d) : isD N M lo hi (fun _ => True) p' (fun t => S t = true) F d := by
  obtain ⟨h1, h2, h3, h4⟩ := hD
  refine ⟨h1, h2, fun j hj hA t o hi' => ?_, fun t ht hS hF => ?_⟩
  · cases q : S t with
    | true => rw [h1 t (inc_N hg hj hi').1 q]; exact Nat.zero_le _
    | false => rw [h j hj t o hi' q]; exact h3 j hj hA t o hi'
  · obtain ⟨j, o, q1, q2, q3, q4⟩ := h4 t ht hS hF
    have hS' : S t = false := by
      cases q : S t with
      | true => exact absurd q hS
      | false => rfl
    exact ⟨j, o, q1, q2, q3, by rw [h j q1 t o q3 hS']; exact q4⟩
theorem far_b {N M r : Nat} {lo hi p d g : Nat → Nat} {S : Nat → Prop} {F : Nat} (hg : ∀ j, j < M → lo j < N ∧ hi j < N ∧ lo j ≠ hi j) (hp : ∀ j, j < M → p j ≤ 1000000) (hD : isD N M lo hi (fun _ => True) p S F d) (hr : r < N) (hS : S r) (hgr : ∀ t, t < N → t ≠ r → ∃ j o, j < M ∧ inc lo hi j t o ∧ g o < g t) : ∀ k t, t < N → g t < k → d t ≤ 1000000 * g t := by
  intro k
  induction k with
  | zero => intro t _ h; omega
  | succ k ih =>
    intro t ht hk
    by_cases q : t = r
    · rw [q, hD.1 r hr hS]; exact Nat.zero_le _
    · obtain ⟨j, o, q1, q2, q3⟩ := hgr t ht q
      have h1 := ih o (inc_N hg q1 q2).2.1 (by omega)
      have h2 := hD.2.2.1 j q1 trivial t o q2
      have h3 := hp j q1
      omega
def wInv (N M : Nat) (lo hi : Nat → Nat) (i r kc : Nat) (ps p0 : Nat → Nat) (S : Nat → Bool) (H : Nat → Nat → Bool) : Prop := S r = true ∧ (∀ j, j < M → H i j = true → S (lo j) = true ∧ S (hi j) = true) ∧ (∀ a j, H a j = true → j < M) ∧ (∀ j, j < M → (S (lo j) = false ∨ S (hi j) = false) → prH ps kc H j = p0 j) ∧ ∀ t, t < N → S t = true → ∃ k, rcN M lo hi H i r k t
def cSt (N M : Nat) (lo hi p0 : Nat → Nat) (S : Nat → Bool) (H : Nat → Nat → Bool) (I : MI) (J : MJ) : Prop := wyC I J H ∧ gfA N M lo hi I ∧ msC N M lo hi p0 I ∧ ∃ f : Nat → Nat, (∀ x, x < N → I 33 x = nI (f x)) ∧ (∀ x, x < N → f x ≤ 536870912) ∧ (∀ x, x < N → (S x = true ↔ f x = 0)) ∧ ∀ d, isD N M lo hi (fun _ => True) p0 (fun t => S t = true) 536870912 d → ∀ x, x < N → d x ≤ f x
def rSt (N w h kc : Nat) (ps : Nat → Nat) (S : Nat → Bool) (H : Nat → Nat → Bool) (K : MI) : Prop := wyR K H ∧ (∀ x, x < N → K 66 x = bi (S x)) ∧ K 44 24 = nI w ∧ K 44 25 = nI h ∧ K 44 27 = nI kc ∧ ∀ j, j < 60 → K 64 j = nI (ps j)
theorem addA_eq {H : Nat → Nat → Bool} {i : Nat} {l : List Nat} {a b : Nat} (h : ¬ (a = i ∧ b ∈ l)) : addA H i l a b = H a b := by
  cases q : H a b with
  | true => exact (addA_at l H a b).mpr (Or.inl q)
  | false =>
    cases z : addA H i l a b with
    | false => rfl
    | true =>
      rcases (addA_at l H a b).mp z with y | y
      · rw [q] at y; cases y
      · exact absurd y h
theorem end_step (n : Nat) (hn : 2400 < n) {N M w h i r kc t : Nat} {lo hi ps p0 : Nat → Nat} {S : Nat → Bool} {H : Nat → Nat → Bool} (hG : gfs N M lo hi) (hR : gfR n N M lo hi w h) (hi32 : i < 32) (hr : r < N) (hkc : kc ≤ 4) (hps : ∀ j, j < 60 → ps j ≤ 1280) (hp0 : ∀ j, j < M → 1 ≤ p0 j ∧ p0 j ≤ 1000000) (hI : wInv N M lo hi i r kc ps p0 S H) (ht : t < N) (hSt : S t = false) : ∃ S' H', wInv N M lo hi i r kc ps p0 S' H' ∧ S' t = true ∧ (∀ x, S x = true → S' x = true) ∧ (∀ a, a ≠ i → H' a = H a) ∧ (∀ I J, cSt N M lo hi p0 S H I J → ∃ I1 I' J', fX8_measure n (-1) I J = some (I1, J) ∧ fX8_goBack n (nI i) (nI t) I1 J = some (I', J') ∧ cSt N M lo hi p0 S' H' I' J' ∧ (∀ a, a ≠ 29 → a ≠ 33 → I' a = I a) ∧ ∀ a, a ≠ 31 → J' a = J a) ∧ ∀ K J, rSt N w h kc ps S H K → ∃ K', fX10_leadTo n (nI i) (nI t) K J = some (K', J) ∧ rSt N w h kc ps S' H' K' ∧ ∀ a, a ≠ 62 → a ≠ 63 → a ≠ 65 → a ≠ 66 → a ≠ 67 → K' a = K a := by
  obtain ⟨⟨hN, hM⟩, hg, hu, hcon⟩ := hG
  obtain ⟨v1, v2, v3, v4, v5⟩ := hI
  obtain ⟨d, hD⟩ := isD_ex (N := N) (M := M) (lo := lo) (hi := hi) (A := fun _ => True) (p := p0) (fun t => S t = true) 536870912 hg
  obtain ⟨g, g1, g2⟩ := hcon r hr
  have hdb : ∀ x, x < N → d x ≤ 36000000 := by
    intro x hx
    have h1 := far_b hg (fun j hj => (hp0 j hj).2) hD hr v1 g2 (g x + 1) x hx (by omega)
    have h2 := g1 x hx
    omega
  have hp1 : ∀ j, j < M → 1 ≤ p0 j := fun j hj => (hp0 j hj).1
  obtain ⟨l, hw, hl⟩ := wlk_ex hg hp1 hD (fun x hx => by have := hdb x hx; omega) (d t + 1) t ht (by omega)
  have hlN : l.length ≤ N := Nat.le_trans hl (rkD_le N d t)
  have hok : okA M H i (l.map (fun x => x.2)) := wlk_okA hg hp1 l t H hw (fun j hj hH => Or.inl (v2 j hj hH))
  have hpp : ∀ j, j < M → ∀ t o, inc lo hi j t o → S t = false → prH ps kc H j = p0 j := by
    intro j hj t o hi' hS
    rcases hi' with ⟨z, -⟩ | ⟨z, -⟩
    · exact v4 j hj (Or.inl (by rw [z]; exact hS))
    · exact v4 j hj (Or.inr (by rw [z]; exact hS))
  have hD9 : isD N M lo hi (fun _ => True) p0 (fun t => S t = true) 1000000000 d := ⟨hD.1, fun x hx => by have := hdb x hx; omega, hD.2.2.1, fun x hx hS _ => hD.2.2.2 x hx hS (by have := hdb x hx; omega)⟩
  have hDr := isD_p hg hpp hD9
  have hwr := wlk_p hpp l t hw
  have hd1 : ∀ x, x < N → S x = false → 1 ≤ d x := by
    intro x hx hS
    obtain ⟨j, o, q1, -, q3, q4⟩ := hD.2.2.2 x hx (show ¬ S x = true by rw [hS]; decide) (by have := hdb x hx; omega)
    have := hp1 j q1
    omega
  refine ⟨fun x => S x || decide (x ∈ l.map (fun x => x.1)), addA H i (l.map (fun x => x.2)), ⟨?_, ?_, ?_, ?_, ?_⟩, ?_, ?_, ?_, ?_, ?_⟩
  · show (S r || _) = true
    rw [v1, Bool.true_or]
  · intro j hj hH
    rcases (addA_at _ H i j).mp hH with q | ⟨-, q⟩
    · obtain ⟨z1, z2⟩ := v2 j hj q
      exact ⟨by show (S (lo j) || _) = true; rw [z1, Bool.true_or], by show (S (hi j) || _) = true; rw [z2, Bool.true_or]⟩
    · have z := wlk_ends l t hw j q
      refine ⟨?_, ?_⟩
      · show (S (lo j) || decide _) = true
        rcases z (lo j) (Or.inl rfl) with y | y
        · rw [y, Bool.true_or]
        · rw [decide_eq_true y, Bool.or_true]
      · show (S (hi j) || decide _) = true
        rcases z (hi j) (Or.inr rfl) with y | y
        · rw [y, Bool.true_or]
        · rw [decide_eq_true y, Bool.or_true]
  · intro a j hH
    rcases (addA_at _ H a j).mp hH with q | ⟨-, q⟩
    · exact v3 a j q
    · have aux : ∀ (l : List Nat) (H : Nat → Nat → Bool), okA M H i l → ∀ j, j ∈ l → j < M := by
        intro l
        induction l with
        | nil => intro H _ j hj; exact absurd hj List.not_mem_nil
        | cons y l ih =>
          intro H hk j hj
          rcases List.mem_cons.mp hj with z | z
          · rw [z]; exact hk.1
          · exact ih _ hk.2.2 j z
      exact aux _ H hok j q
  · intro j hj hS'
    have hnj : ¬ j ∈ l.map (fun x => x.2) := by
      intro q
      have z := wlk_ends l t hw j q
      rcases hS' with y | y
      · rcases z (lo j) (Or.inl rfl) with w | w
        · have y' : (S (lo j) || decide (lo j ∈ l.map (fun x => x.1))) = false := y
          rw [w, Bool.true_or] at y'; cases y'
        · have y' : (S (lo j) || decide (lo j ∈ l.map (fun x => x.1))) = false := y
          rw [decide_eq_true w, Bool.or_true] at y'; cases y'
      · rcases z (hi j) (Or.inr rfl) with w | w
        · have y' : (S (hi j) || decide (hi j ∈ l.map (fun x => x.1))) = false := y
          rw [w, Bool.true_or] at y'; cases y'
        · have y' : (S (hi j) || decide (hi j ∈ l.map (fun x => x.1))) = false := y
          rw [decide_eq_true w, Bool.or_true] at y'; cases y'
    have hcnt : ct_cnt (fun a => addA H i (l.map (fun x => x.2)) a j) 32 = ct_cnt (fun a => H a j) 32 := ct_cnt_congr 32 (fun a _ => addA_eq (fun z => hnj z.2))
    have e : prH ps kc (addA H i (l.map (fun x => x.2))) j = prH ps kc H j := by
      unfold prH
      rw [hcnt]
    rw [e]
    refine v4 j hj ?_
    rcases hS' with y | y
    · exact Or.inl (Bool.or_eq_false_iff.mp y).1
    · exact Or.inr (Bool.or_eq_false_iff.mp y).1
  · intro x hx hS'
    have hmono : ∀ k y, rcN M lo hi H i r k y → rcN M lo hi (addA H i (l.map (fun x => x.2))) i r k y := fun k y q => rch_mono (fun j z => ⟨z.1, (addA_at _ H i j).mpr (Or.inl z.2)⟩) k _ q
    have hall := wlk_rch (H := addA H i (l.map (fun x => x.2))) (i := i) (r := r) hg (fun y hy hS => by
      obtain ⟨k, hk⟩ := v5 y hy hS
      exact ⟨k, hmono k y hk⟩) l t ht hw (fun j hj => (addA_at _ H i j).mpr (Or.inr ⟨rfl, hj⟩))
    rcases Bool.or_eq_true_iff.mp hS' with q | q
    · obtain ⟨k, hk⟩ := v5 x hx q
      exact ⟨k, hmono k x hk⟩
    · exact hall.2 x (of_decide_eq_true q)
  · show (S t || decide _) = true
    rcases wlk_in l t hw with q | q
    · rw [q, Bool.true_or]
    · rw [decide_eq_true q, Bool.or_true]
  · intro x hx
    show (S x || _) = true
    rw [hx, Bool.true_or]
  · intro a ha
    funext b
    exact addA_eq (fun z => ha z.1)
  · intro I J hcs
    obtain ⟨c1, c2, c3, f, f1, f2, f3, f4⟩ := hcs
    obtain ⟨I1, m1, m2, m3⟩ := measC_ok n hn (x2 := -1) hN hM hg (A := fun _ => True) (fun j hj => ⟨fun _ => trivial, fun _ => bl_m1 (by omega)⟩) (fun j hj _ => hp1 j hj) I J c3 hD (fun x hx hS => (f3 x hx).mp hS) (f4 d hD) f2 f1
    have c2' : gfA N M lo hi I1 := by unfold gfA; rw [m2 21 (by decide)]; exact c2
    have c3' : msC N M lo hi p0 I1 := msC_fr m2 c3
    have c1' : wyC I1 J H := ⟨by rw [m2 29 (by decide)]; exact c1.1, c1.2⟩
    obtain ⟨I', J', b1, b2', b3, b4, b5⟩ := goBack_ok n hn hN hM hg hp1 hi32 (fun x hx hS => hD.1 x hx hS) (fun x hx => by have := hdb x hx; omega) I1 J c2' c3' m3 hw ht hlN c1' hok
    refine ⟨I1, I', J', m1, b1, ⟨b2', ?_, ?_, fun x => if x ∈ l.map (fun x => x.1) then 0 else d x, b5, fun x hx => ?_, fun x hx => ?_, fun d' hD' x hx => ?_⟩, fun a q1 q2 => by rw [b3 a q1 q2]; exact m2 a q2, b4⟩
    · unfold gfA; rw [b3 21 (by decide) (by decide)]; exact c2'
    · unfold msC; rw [b3 16 (by decide) (by decide), b3 19 (by decide) (by decide), b3 20 (by decide) (by decide), b3 32 (by decide) (by decide)]; exact c3'
    · show (if x ∈ l.map (fun x => x.1) then 0 else d x) ≤ 536870912
      have := hdb x hx
      split <;> omega
    · show (S x || decide (x ∈ l.map (fun x => x.1))) = true ↔ (if x ∈ l.map (fun x => x.1) then 0 else d x) = 0
      by_cases q : x ∈ l.map (fun x => x.1)
      · rw [if_pos q, decide_eq_true q, Bool.or_true]
        exact ⟨fun _ => rfl, fun _ => rfl⟩
      · rw [if_neg q, decide_eq_false q, Bool.or_false]
        constructor
        · intro z; exact hD.1 x hx z
        · intro z
          cases y : S x with
          | true => rfl
          | false => have := hd1 x hx y; omega
    · have hfle : ∀ y, (if y ∈ l.map (fun x => x.1) then 0 else d y) ≤ d y := fun y => by split <;> omega
      refine low_le (f := fun x => if x ∈ l.map (fun x => x.1) then 0 else d x) hg (fun j hj _ => hp1 j hj) hD' (fun y hy hS' hF => ?_) (d x + 1) x hx (by have := hfle x; exact Nat.lt_succ_of_le this)
      have hny : ¬ y ∈ l.map (fun x => x.1) := fun z => hS' (by show (S y || decide _) = true; rw [decide_eq_true z, Bool.or_true])
      have hnS : ¬ S y = true := fun z => hS' (by show (S y || _) = true; rw [z, Bool.true_or])
      obtain ⟨j, o, q1, q2, q3, q4⟩ := hD.2.2.2 y hy hnS (by have := hdb y hy; omega)
      refine ⟨j, o, q1, q2, q3, ?_⟩
      show (if o ∈ l.map (fun x => x.1) then 0 else d o) + p0 j ≤ (if y ∈ l.map (fun x => x.1) then 0 else d y)
      rw [if_neg hny]
      have := hfle o
      omega
  · intro K J hrs
    obtain ⟨c1, c2, c3, c4, c5, c6⟩ := hrs
    obtain ⟨K', b1, b2', b3, b4⟩ := leadTo_ok n hn (p := prH ps kc H) hN hM hg hu hR (fun j hj => prH_b (hps j (by omega))) hi32 hDr K J c3 c4 (fun K' hK' j hj => price_ok n (by omega) hkc K' J (by rw [hK' 63 (by decide) (by decide) (by decide)]; exact c1.1 j (by omega)) (by rw [hK' 64 (by decide) (by decide) (by decide)]; exact c6 j (by omega)) (by rw [hK' 44 (by decide) (by decide) (by decide)]; exact c5)) c2 hwr ht hlN c1 hok
    refine ⟨K', b1, ⟨b2', b3, ?_, ?_, ?_, ?_⟩, b4⟩
    · rw [b4 44 (by decide) (by decide) (by decide) (by decide) (by decide)]; exact c3
    · rw [b4 44 (by decide) (by decide) (by decide) (by decide) (by decide)]; exact c4
    · rw [b4 44 (by decide) (by decide) (by decide) (by decide) (by decide)]; exact c5
    · rw [b4 64 (by decide) (by decide) (by decide) (by decide) (by decide)]; exact c6
