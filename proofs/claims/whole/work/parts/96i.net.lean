/-! clock: the gates of the class's net -/
def gateV (I : MI) (V : Nat → Bool) (c : Nat) : Bool := opB (I 5 c).toNatClampNeg (V ((I 3 c).toNatClampNeg / 2) ^^ (I 3 c).toNatClampNeg.testBit 0) (V ((I 4 c).toNatClampNeg / 2) ^^ (I 4 c).toNatClampNeg.testBit 0)
theorem netC_ok (n : Nat) (hn : 2400 < n) {c : Nat} (hc : c ≤ 32) (I : MI) (J : MJ) (h5 : I 1 5 = nI c) (hin : ∀ i, i < c → gateIn I i) {V : Nat → Bool} (hV0 : ∀ i, i < c → ¬ I 2 i = 2 → bt (I 39 i) 0 = V i) (hV : ∀ i, i < c → I 2 i = 2 → V i = gateV I V i) : ∃ I', lX6_stepNet_11 n n 0 I J = Option.bind (fX6_outsOf n 39 I' J) (fun r56 => lt (upM r56.2.1 38 1 r56.1) (fun I59 => lX6_stepNet_67 n n 0 0 I59 r56.2.2)) ∧ (∀ a, a ≠ 39 → I' a = I a) ∧ (∀ i, i < c → bt (I' 39 i) 0 = V i) ∧ ∀ i, (i < c → ¬ I 2 i = 2) → I' 39 i = I 39 i := by
  have l : ∀ q k I1, k ≤ c → c < q + k → (∀ a, a ≠ 39 → I1 a = I a) → (∀ i, i < k → bt (I1 39 i) 0 = V i) → (∀ i, (i < k → ¬ I 2 i = 2) → I1 39 i = I 39 i) → ∃ I', lX6_stepNet_11 n q (nI k) I1 J = Option.bind (fX6_outsOf n 39 I' J) (fun r56 => lt (upM r56.2.1 38 1 r56.1) (fun I59 => lX6_stepNet_67 n n 0 0 I59 r56.2.2)) ∧ (∀ a, a ≠ 39 → I' a = I a) ∧ (∀ i, i < c → bt (I' 39 i) 0 = V i) ∧ ∀ i, (i < c → ¬ I 2 i = 2) → I' 39 i = I 39 i := by
    intro q
    induction q with
    | zero => intro k I1 h1 h2; omega
    | succ q ih =>
      intro k I1 h1 h2 f1 f2 f3
      have e : lX6_stepNet_11 n (q + 1) (nI k) I1 J = fX6_stepNet_11 n (lX6_stepNet_11 n q) (nI k) I1 J := rfl
      rw [e]
      unfold fX6_stepNet_11 fX6_stepNet_44
      rw [f1 1 (by decide), h5]
      by_cases hk : k = c
      · subst hk
        rw [if_pos (Int32.le_refl _)]
        exact ⟨I1, rfl, f1, f2, f3⟩
      have hkc : k < c := by omega
      rw [if_neg (nI_ge (by omega) (by omega)), if_pos (inb_nI (by omega) (by decide)), clampI (by omega), f1 2 (by decide), nI_1]
      by_cases hs : I 2 k = 2
      · obtain ⟨x, y, o, hx, hy, ho, e3, e4, e5⟩ := hin k hkc hs
        obtain ⟨w, w1, w2⟩ := reckon_ok n 39 aln_39 (c := k) (x := x) (y := y) (o := o) (by omega) (by omega) (by omega) ho I1 J (by rw [f1 3 (by decide)]; exact e3) (by rw [f1 4 (by decide)]; exact e4) (by rw [f1 5 (by decide)]; exact e5)
        rw [if_pos hs, w1]
        simp only [Option.bind_some]
        rw [if_pos (inb_nI (by omega) (by decide))]
        simp only [lt]
        refine ih (k + 1) _ (by omega) (by omega) (fun a ha => by rw [upM_ne a ha]; exact f1 a ha) (fun i hi => ?_) (fun i hi => ?_)
        · rw [upM_get, if_pos rfl]
          by_cases hik : i = k
          · rw [if_pos hik, w2 0 (by decide), f2 (x / 2) (by omega), f2 (y / 2) (by omega), hik, hV k hkc hs]
            unfold gateV
            rw [e3, e4, e5, nI_clamp (by omega), nI_clamp (by omega), nI_clamp (by omega)]
          · rw [if_neg hik]; exact f2 i (by omega)
        · rw [upM_get, if_pos rfl, if_neg (fun z => (hi (by omega)) (by rw [z]; exact hs))]
          exact f3 i (fun z => hi (by omega))
      · rw [if_neg hs]
        refine ih (k + 1) I1 (by omega) (by omega) f1 (fun i hi => ?_) (fun i hi => f3 i (fun z => hi (by omega)))
        by_cases hik : i = k
        · rw [hik, f3 k (fun z => absurd z (Nat.lt_irrefl _))]
          exact hV0 k hkc hs
        · exact f2 i (by omega)
  exact l n 0 I (Nat.zero_le _) (by omega) (fun _ _ => rfl) (fun i hi => absurd hi (Nat.not_lt_zero _)) (fun _ _ => rfl)
