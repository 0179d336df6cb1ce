/-! ways: all ENDS of a wire; a whole wire on both sides -/
theorem ends_ok (n : Nat) (hn : 2400 < n) {N M w h i r kc : Nat} {lo hi ps p0 : Nat → Nat} {E : Int64} (hG : gfs N M lo hi) (hR : gfR n N M lo hi w h) (hi32 : i < 32) (hr : r < N) (hkc : kc ≤ 4) (hps : ∀ j, j < 60 → ps j ≤ 1280) (hp0 : ∀ j, j < M → 1 ≤ p0 j ∧ p0 j ≤ 1000000) : ∀ m t S H, t + m = N → wInv N M lo hi i r kc ps p0 S H → ∃ S' H', wInv N M lo hi i r kc ps p0 S' H' ∧ (∀ x, S x = true → S' x = true) ∧ (∀ x, t ≤ x → x < N → bl E x = true → S' x = true) ∧ (∀ a, a ≠ i → H' a = H a) ∧ ((∀ x, x < N → ¬ bl E x = true) → H' = H) ∧ (∀ I J q, m < q → cSt N M lo hi p0 S H I J → ∃ I' J', lX8_leadWire_39 n q (nI i) E (nI t) I J = some (I', J') ∧ wyC I' J' H' ∧ (∀ a, a ≠ 29 → a ≠ 33 → I' a = I a) ∧ ∀ a, a ≠ 31 → J' a = J a) ∧ ∀ K J q, m < q → rSt N w h kc ps S H K → ∃ K', lX10_leadWire_55 n q (nI i) E (nI t) K J = some (K', J) ∧ wyR K' H' ∧ ∀ a, a ≠ 62 → a ≠ 63 → a ≠ 65 → a ≠ 66 → a ≠ 67 → K' a = K a := by
  have hN := hG.1.1
  intro m
  induction m with
  | zero =>
    intro t S H htm hI
    refine ⟨S, H, hI, fun x q => q, fun x q1 q2 => by omega, fun _ _ => rfl, fun _ => rfl, fun I J q hq hcs => ?_, fun K J q hq hrs => ?_⟩
    · obtain ⟨q, rfl⟩ : ∃ z, q = z + 1 := ⟨q - 1, by omega⟩
      have e : lX8_leadWire_39 n (q + 1) (nI i) E (nI t) I J = fX8_leadWire_39 n (lX8_leadWire_39 n q) (nI i) E (nI t) I J := rfl
      refine ⟨I, J, ?_, hcs.1, fun _ _ _ => rfl, fun _ _ => rfl⟩
      rw [e]
      unfold fX8_leadWire_39
      rw [hcs.2.2.1.1, if_pos (nI_le (by omega) (by omega))]
    · obtain ⟨q, rfl⟩ : ∃ z, q = z + 1 := ⟨q - 1, by omega⟩
      have e : lX10_leadWire_55 n (q + 1) (nI i) E (nI t) K J = fX10_leadWire_55 n (lX10_leadWire_55 n q) (nI i) E (nI t) K J := rfl
      refine ⟨K, ?_, hrs.1, fun _ _ _ _ _ _ => rfl⟩
      rw [e]
      unfold fX10_leadWire_55
      rw [(hR K J hrs.2.2.1 hrs.2.2.2.1).1]
      simp only [Option.bind_some]
      rw [if_pos (nI_le (by omega) (by omega))]
  | succ m ih =>
    intro t S H htm hI
    have htN : t < N := by omega
    have it : inb (nI t) 36 = true := inb_nI (by omega) (by decide)
    by_cases hgo : bl E t = true ∧ S t = false
    · obtain ⟨hb, hSt⟩ := hgo
      obtain ⟨S1, H1, a1, a2, a3, a4, a5, a6⟩ := end_step n hn hG hR hi32 hr hkc hps hp0 hI htN hSt
      obtain ⟨S', H', b1, b2', b3, b4, b5, b6, b7⟩ := ih (t + 1) S1 H1 (by omega) a1
      refine ⟨S', H', b1, fun x q => b2' x (a3 x q), fun x q1 q2 q3 => ?_, fun a ha => by rw [b4 a ha]; exact a4 a ha, fun z => absurd hb (z t htN), fun I J q hq hcs => ?_, fun K J q hq hrs => ?_⟩
      · by_cases hx : x = t
        · rw [hx]; exact b2' t a2
        · exact b3 x (by omega) q2 q3
      · obtain ⟨q, rfl⟩ : ∃ z, q = z + 1 := ⟨q - 1, by omega⟩
        have e : lX8_leadWire_39 n (q + 1) (nI i) E (nI t) I J = fX8_leadWire_39 n (lX8_leadWire_39 n q) (nI i) E (nI t) I J := rfl
        obtain ⟨I1, I2, J2, m1, m2, m3, m4, m5⟩ := a5 I J hcs
        obtain ⟨I', J', n1, n2, n3, n4⟩ := b6 I2 J2 q (by omega) m3
        obtain ⟨c1, c2, c3, f, f1, f2, f3, f4⟩ := hcs
        have hf : f t ≠ 0 := fun z => by rw [(f3 t htN).mpr z] at hSt; cases hSt
        have hfb := f2 t htN
        refine ⟨I', J', ?_, n2, fun a q1 q2 => by rw [n3 a q1 q2]; exact m4 a q1 q2, fun a ha => by rw [n4 a ha]; exact m5 a ha⟩
        rw [e]
        unfold fX8_leadWire_39 fX8_leadWire_84
        rw [c3.1, if_neg (nI_ge (by omega) (by omega)), hasBit_eq n E (by omega), nI_1]
        simp only [Option.bind_some]
        rw [b2_t hb, if_neg (by decide), if_pos it, clampI (by omega), f1 t htN, if_neg (nI_ne0 (by omega) (by omega)), m1]
        simp only [Option.bind_some]
        rw [m2]
        simp only [Option.bind_some]
        exact n1
      · obtain ⟨q, rfl⟩ : ∃ z, q = z + 1 := ⟨q - 1, by omega⟩
        have e : lX10_leadWire_55 n (q + 1) (nI i) E (nI t) K J = fX10_leadWire_55 n (lX10_leadWire_55 n q) (nI i) E (nI t) K J := rfl
        obtain ⟨K1, m1, m2, m3⟩ := a6 K J hrs
        obtain ⟨K', n1, n2, n3⟩ := b7 K1 J q (by omega) m2
        refine ⟨K', ?_, n2, fun a q1 q2 q3 q4 q5 => by rw [n3 a q1 q2 q3 q4 q5]; exact m3 a q1 q2 q3 q4 q5⟩
        rw [e]
        unfold fX10_leadWire_55 fX10_leadWire_92
        rw [(hR K J hrs.2.2.1 hrs.2.2.2.1).1]
        simp only [Option.bind_some]
        rw [if_neg (nI_ge (by omega) (by omega)), shr_and E (by omega), if_pos hb, if_pos ((lg_cmp_eq _ _).mpr rfl), if_pos it, clampI (by omega), hrs.2.1 t htN, hSt, if_pos (by decide), m1, nI_1]
        simp only [Option.bind_some]
        exact n1
    · obtain ⟨S', H', b1, b2', b3, b4, b5, b6, b7⟩ := ih (t + 1) S H (by omega) hI
      refine ⟨S', H', b1, b2', fun x q1 q2 q3 => ?_, b4, b5, fun I J q hq hcs => ?_, fun K J q hq hrs => ?_⟩
      · by_cases hx : x = t
        · rw [hx] at q3 ⊢
          cases hS : S t with
          | true => exact b2' t hS
          | false => exact absurd ⟨q3, hS⟩ hgo
        · exact b3 x (by omega) q2 q3
      · obtain ⟨q, rfl⟩ : ∃ z, q = z + 1 := ⟨q - 1, by omega⟩
        have e : lX8_leadWire_39 n (q + 1) (nI i) E (nI t) I J = fX8_leadWire_39 n (lX8_leadWire_39 n q) (nI i) E (nI t) I J := rfl
        obtain ⟨I', J', n1, n2, n3, n4⟩ := b6 I J q (by omega) hcs
        obtain ⟨c1, c2, c3, f, f1, f2, f3, f4⟩ := hcs
        refine ⟨I', J', ?_, n2, n3, n4⟩
        rw [e]
        unfold fX8_leadWire_39 fX8_leadWire_84
        rw [c3.1, if_neg (nI_ge (by omega) (by omega)), hasBit_eq n E (by omega), nI_1]
        simp only [Option.bind_some]
        by_cases hb : bl E t = true
        · have hS : S t = true := by
            cases hS : S t with
            | true => rfl
            | false => exact absurd ⟨hb, hS⟩ hgo
          rw [b2_t hb, if_neg (by decide), if_pos it, clampI (by omega), f1 t htN, (f3 t htN).mp hS, if_pos (by decide)]
          exact n1
        · rw [b2_f hb, if_pos rfl]
          exact n1
      · obtain ⟨q, rfl⟩ : ∃ z, q = z + 1 := ⟨q - 1, by omega⟩
        have e : lX10_leadWire_55 n (q + 1) (nI i) E (nI t) K J = fX10_leadWire_55 n (lX10_leadWire_55 n q) (nI i) E (nI t) K J := rfl
        obtain ⟨K', n1, n2, n3⟩ := b7 K J q (by omega) hrs
        refine ⟨K', ?_, n2, n3⟩
        rw [e]
        unfold fX10_leadWire_55 fX10_leadWire_92
        rw [(hR K J hrs.2.2.1 hrs.2.2.2.1).1]
        simp only [Option.bind_some]
        rw [if_neg (nI_ge (by omega) (by omega)), shr_and E (by omega), nI_1]
        by_cases hb : bl E t = true
        · have hS : S t = true := by
            cases hS : S t with
            | true => rfl
            | false => exact absurd ⟨hb, hS⟩ hgo
          rw [if_pos hb, if_pos ((lg_cmp_eq _ _).mpr rfl), if_pos it, clampI (by omega), hrs.2.1 t htN, hS, if_neg (by decide)]
          exact n1
        · rw [if_neg hb, if_neg (fun z => by rw [lg_cmp_eq] at z; exact absurd z (by decide))]
          exact n1
/-- what a wire of the class stands on -/
def cLd (n N M : Nat) (lo hi : Nat → Nat) (i r kc : Nat) (ps : Nat → Nat) (E : Int64) (I : MI) : Prop := gfC N M lo hi I ∧ I 16 0 = nI kc ∧ (∀ j, j < 60 → I 30 j = nI (ps j)) ∧ I 24 i = nI r ∧ ∀ (I' : MI) (J' : MJ), I' 24 = I 24 → I' 27 = I 27 → fX5_endsOf n (nI i) I' J' = some (E, I', J')
def rLd (n w h i r kc : Nat) (ps : Nat → Nat) (E : Int64) (K : MI) : Prop := K 44 24 = nI w ∧ K 44 25 = nI h ∧ K 44 27 = nI kc ∧ (∀ j, j < 60 → K 64 j = nI (ps j)) ∧ K 61 i = nI r ∧ ∀ J', fX10_endsOf n (nI i) K J' = some (E, K, J')
theorem wire_ok (n : Nat) (hn : 2400 < n) {N M w h i r kc : Nat} {lo hi ps : Nat → Nat} {E : Int64} {H : Nat → Nat → Bool} (hG : gfs N M lo hi) (hR : gfR n N M lo hi w h) (hi32 : i < 32) (hr : r < N) (hkc : kc ≤ 4) (hps : ∀ j, j < 60 → ps j ≤ 1280) (hE : ∀ x, x < 64 → bl E x = true → x < N) (hH : ∀ a j, H a j = true → j < M) : ∃ H', (∀ a j, H' a j = true → j < M) ∧ (∀ a, a ≠ i → H' a = H a) ∧ (∀ x, x < N → bl E x = true → ∃ k, rcN M lo hi H' i r k x) ∧ (∀ I J, wyC I J H → cLd n N M lo hi i r kc ps E I → ∃ I' J', fX8_leadWire n (nI i) I J = some (I', J') ∧ wyC I' J' H' ∧ (∀ a, a ≠ 29 → a ≠ 32 → a ≠ 33 → I' a = I a) ∧ ∀ a, a ≠ 31 → J' a = J a) ∧ ∀ K J, wyR K H → rLd n w h i r kc ps E K → ∃ K', fX10_leadWire n (nI i) K J = some (K', J) ∧ wyR K' H' ∧ ∀ a, a ≠ 62 → a ≠ 63 → a ≠ 65 → a ≠ 66 → a ≠ 67 → K' a = K a := by
  obtain ⟨⟨hN, hM⟩, hg, hu, hcon⟩ := id hG
  have hI0 : wInv N M lo hi i r kc ps (prH ps kc (offH H i)) (fun t => decide (t = r)) (offH H i) := by
    refine ⟨decide_eq_true rfl, fun j _ hh => ?_, fun a j hh => ?_, fun _ _ _ => rfl, fun t ht hS => ⟨0, ?_⟩⟩
    · have : offH H i i j = false := if_pos rfl
      rw [this] at hh; cases hh
    · unfold offH at hh
      by_cases q : a = i
      · rw [if_pos q] at hh; cases hh
      · rw [if_neg q] at hh; exact hH a j hh
    · have hS' : decide (t = r) = true := hS
      rw [of_decide_eq_true hS']
      exact (rfl : nI r = nI r)
  have hp0 : ∀ j, j < M → 1 ≤ prH ps kc (offH H i) j ∧ prH ps kc (offH H i) j ≤ 1000000 := fun j hj => prH_b (hps j (by omega))
  obtain ⟨S', H', b1, b2', b3, b4, b5, b6, b7⟩ := ends_ok n hn (E := E) hG hR hi32 hr hkc hps hp0 N 0 _ _ (by omega) hI0
  refine ⟨H', b1.2.2.1, fun a ha => ?_, fun x hx hb => b1.2.2.2.2 x hx (b3 x (Nat.zero_le _) hx hb), fun I J hC hL => ?_, fun K J hW hL => ?_⟩
  · rw [b4 a ha]
    funext b
    exact if_neg ha
  · obtain ⟨⟨l1, l2, l3, l4⟩, l5, l6, l7, l8⟩ := hL
    obtain ⟨I1, J1, o1, o2, o3, o4⟩ := offC_ok n hn hM hi32 (hH i) I J l2 hC
    have hends := l8 I1 J1 (o3 24 (by decide)) (o3 27 (by decide))
    unfold fX8_leadWire
    rw [o1]
    simp only [Option.bind_some]
    rw [hends]
    simp only [Option.bind_some, lt]
    by_cases hz : E = 0
    · rw [if_pos ((lg_cmp_eq _ _).mpr hz)]
      have hno : ∀ x, x < N → ¬ bl E x = true := fun x _ q => by rw [hz, bl_0] at q; cases q
      refine ⟨I1, J1, rfl, by rw [b5 hno]; exact o2, fun a q1 _ _ => o3 a q1, o4⟩
    · rw [if_neg (fun z => hz ((lg_cmp_eq _ _).mp z))]
      obtain ⟨I2, p1, p2, p3⟩ := setP_ok n hn (ps := ps) hM hkc I1 J1 (by rw [o3 16 (by decide)]; exact l2) (by rw [o3 16 (by decide)]; exact l5) o2.1 (by rw [o3 30 (by decide)]; exact l6)
      have e2 : ∀ a, a ≠ 29 → a ≠ 32 → I2 a = I a := fun a q1 q2 => by rw [p2 a q2]; exact o3 a q1
      obtain ⟨I3, t1, t2, t3⟩ := plant_ok n hn (show r < 36 by omega) I2 J1
      have e3 : ∀ a, a ≠ 29 → a ≠ 32 → a ≠ 33 → I3 a = I a := fun a q1 q2 q3 => by rw [t2 a q3]; exact e2 a q1 q2
      rw [p1]
      simp only [Option.bind_some]
      rw [if_pos (inb_nI hi32 (by decide)), clampI (by omega), e2 24 (by decide) (by decide), l7, t1]
      simp only [Option.bind_some]
      have hcs : cSt N M lo hi (prH ps kc (offH H i)) (fun t => decide (t = r)) (offH H i) I3 J1 := by
        refine ⟨⟨by rw [t2 29 (by decide), p2 29 (by decide)]; exact o2.1, o2.2⟩, ?_, ⟨?_, ?_, fun j hj => ⟨?_, ?_, ?_, (hp0 j hj).2⟩⟩, fun t => if t = r then 0 else 536870912, fun x hx => t3 x (by omega), fun x _ => ?_, fun x _ => ?_, fun d hD x hx => ?_⟩
        · unfold gfA; rw [e3 21 (by decide) (by decide) (by decide)]; exact l4
        · rw [e3 16 (by decide) (by decide) (by decide)]; exact l1
        · rw [e3 16 (by decide) (by decide) (by decide)]; exact l2
        · rw [e3 19 (by decide) (by decide) (by decide)]; exact (l3 j hj).1
        · rw [e3 20 (by decide) (by decide) (by decide)]; exact (l3 j hj).2
        · rw [t2 32 (by decide)]; exact p3 j hj
        · show (if x = r then 0 else 536870912) ≤ 536870912
          split <;> omega
        · show decide (x = r) = true ↔ (if x = r then 0 else 536870912) = 0
          by_cases q : x = r
          · rw [if_pos q, decide_eq_true q]; exact ⟨fun _ => rfl, fun _ => rfl⟩
          · rw [if_neg q, decide_eq_false q]; exact ⟨fun z => (by cases z), fun z => by omega⟩
        · show d x ≤ if x = r then 0 else 536870912
          by_cases q : x = r
          · rw [if_pos q, q]
            have := hD.1 r hr (decide_eq_true rfl)
            omega
          · rw [if_neg q]; exact hD.2.1 x hx
      obtain ⟨I', J', n1, n2, n3, n4⟩ := b6 I3 J1 n (by omega) hcs
      exact ⟨I', J', n1, n2, fun a q1 q2 q3 => by rw [n3 a q1 q3]; exact e3 a q1 q2 q3, fun a ha => by rw [n4 a ha]; exact o4 a ha⟩
  · obtain ⟨l1, l2, l3, l4, l5, l6⟩ := hL
    obtain ⟨K1, o1, o2, o3⟩ := offR_ok n hn hi32 K J hW
    have e44 : K1 44 = K 44 := o3 44 (by decide) (by decide)
    obtain ⟨K2, t1, t2, t3⟩ := tree_ok n hn (x2 := E) (r := r) hN hR hi32 hr K1 J (by rw [e44]; exact l1) (by rw [e44]; exact l2) (by rw [o3 61 (by decide) (by decide)]; exact l5)
    have e2 : ∀ a, a ≠ 62 → a ≠ 63 → a ≠ 66 → K2 a = K a := fun a q1 q2 q3 => by rw [t2 a q3]; exact o3 a q1 q2
    have hrs : rSt N w h kc ps (fun t => decide (t = r)) (offH H i) K2 := by
      refine ⟨⟨by rw [t2 63 (by decide)]; exact o2.1, by rw [t2 62 (by decide)]; exact o2.2⟩, t3, ?_, ?_, ?_, ?_⟩
      · rw [e2 44 (by decide) (by decide) (by decide)]; exact l1
      · rw [e2 44 (by decide) (by decide) (by decide)]; exact l2
      · rw [e2 44 (by decide) (by decide) (by decide)]; exact l3
      · rw [e2 64 (by decide) (by decide) (by decide)]; exact l4
    obtain ⟨K', n1, n2, n3⟩ := b7 K2 J n (by omega) hrs
    refine ⟨K', ?_, n2, fun a q1 q2 q3 q4 q5 => by rw [n3 a q1 q2 q3 q4 q5]; exact e2 a q1 q2 q4⟩
    unfold fX10_leadWire
    rw [l6 J]
    simp only [Option.bind_some, lt]
    rw [o1]
    simp only [Option.bind_some]
    rw [t1]
    exact n1
