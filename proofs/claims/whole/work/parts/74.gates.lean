/-! the class's cuts: a new gate -/
/-- the row of gate g in the class: the cuts p, all else as at first -/
def rowJ (J0 : MJ) (r : Nat → Nat) (g : Nat) (p : Cuts) (J : MJ) : Prop := (∀ i, i < p.1 → J 10 (40 * g + i) = lN (r (p.2 i))) ∧ ∀ a b, (a ≠ 10 ∨ b < 40 * g ∨ 40 * g + 40 ≤ b) → J a b = J0 a b
theorem kc_keep {K : Nat → Cuts} {D : Nat → Nat} {I0 : MI} {J0 J : MJ} {r : Nat → Nat} {p : Cuts} {a g : Nat} {v : Int32} (ha : a < g) (hw : (K a).1 ≤ 40) (hk : kcOk K D I0 J0 a) (hJ : rowJ J0 r g p J) : kcOk K D (upM I0 8 g v) J a := by
  obtain ⟨k1, k2, k3⟩ := hk
  refine ⟨?_, ?_, fun i hi => ?_⟩
  · rw [upM_get, if_pos rfl, if_neg (by omega)]; exact k1
  · rw [upM_ne 9 (by decide)]; exact k2
  · rw [hJ.2 10 _ (by omega)]; exact k3 i hi
theorem f33_step (n : Nat) {k10 : Int32 → Int32 → Int32 → Int32 → MI → MJ → Option M2} {k33 : Int32 → Int32 → Int32 → Int32 → Int64 → Int32 → MI → MJ → Option M2} {x1 x2 x3 x4 x7 : Int32} {x5 Y : Int64} {I I1 : MI} {J J1 : MJ} (h1 : inb x3 32 = true) (h2 : ¬ I 8 x3.toNatClampNeg < x7) (hc : fX0_choice n x3 x7 I J = some (Y, I, J)) (ho : fX0_offer n x1 x5 Y I J = some (I1, J1)) : fX0_addGate_33 n k10 k33 x1 x2 x3 x4 x5 x7 I J = k33 x1 x2 x3 x4 x5 (x7 + 1) I1 J1 := by
  unfold fX0_addGate_33
  rw [if_pos h1, if_neg h2, hc]
  simp only [Option.bind_some]
  rw [ho]
  rfl
theorem f33_end (n : Nat) {k10 : Int32 → Int32 → Int32 → Int32 → MI → MJ → Option M2} {k33 : Int32 → Int32 → Int32 → Int32 → Int64 → Int32 → MI → MJ → Option M2} {x1 x2 x3 x4 x7 : Int32} {x5 : Int64} {I : MI} {J : MJ} (h1 : inb x3 32 = true) (h2 : I 8 x3.toNatClampNeg < x7) : fX0_addGate_33 n k10 k33 x1 x2 x3 x4 x5 x7 I J = k10 x1 x2 x3 (x4 + 1) I J := by
  unfold fX0_addGate_33
  rw [if_pos h1, if_pos h2]
theorem f10_step (n : Nat) {k10 : Int32 → Int32 → Int32 → Int32 → MI → MJ → Option M2} {x1 x2 x3 x4 : Int32} {X : Int64} {I : MI} {J : MJ} (h1 : inb x2 32 = true) (h2 : ¬ I 8 x2.toNatClampNeg < x4) (hc : fX0_choice n x2 x4 I J = some (X, I, J)) : fX0_addGate_10 n k10 x1 x2 x3 x4 I J = lX0_addGate_33 n k10 n x1 x2 x3 x4 X 0 I J := by
  unfold fX0_addGate_10
  rw [if_pos h1, if_neg h2, hc]
  rfl
theorem f10_end (n : Nat) {k10 : Int32 → Int32 → Int32 → Int32 → MI → MJ → Option M2} {x1 x2 x3 x4 d : Int32} {I : MI} {J : MJ} (h1 : inb x2 32 = true) (h2 : I 8 x2.toNatClampNeg < x4) (h3 : inb (x1 * 40) 1280 = true) (h4 : inb x1 32 = true) (h5 : (ushrL (J 10 (x1 * 40).toNatClampNeg) 40).toInt32 = d) : fX0_addGate_10 n k10 x1 x2 x3 x4 I J = some (upM I 9 x1.toNatClampNeg d, J) := by
  unfold fX0_addGate_10
  rw [if_pos h1, if_pos h2, if_pos h3, if_pos h4, h5]
  rfl
theorem ag_in (n : Nat) (hn : 2400 < n) {K : Nat → Cuts} {D : Nat → Nat} {I0 : MI} {J0 : MJ} {g a b : Nat} (hg : g < 32) (hb : b < g) (hD : ∀ i, i < g → D i ≤ i) (hkb : kcOk K D I0 J0 b) (hwb : ct_ok (ct_rk b D) b (K b)) (k10 : Int32 → Int32 → Int32 → Int32 → MI → MJ → Option M2) (i u : Nat) (hu : u < 2 ^ g) (p0 : Cuts) (hp0 : ct_ok (ct_rk g D) g p0) : ∀ q j J, j ≤ (K b).1 + 1 → (K b).1 + 1 < q + j → rowJ J0 (ct_rk g D) g (ct_inn (ct_rk g D) u (ct_ch (K b) b) j p0) J → ∃ J', lX0_addGate_33 n k10 q (nI g) (nI a) (nI b) (nI i) (lN (ct_rk g D u)) (nI j) (upM I0 8 g (nI (ct_inn (ct_rk g D) u (ct_ch (K b) b) j p0).1)) J = k10 (nI g) (nI a) (nI b) (nI (i + 1)) (upM I0 8 g (nI (ct_inn (ct_rk g D) u (ct_ch (K b) b) ((K b).1 + 1) p0).1)) J' ∧ rowJ J0 (ct_rk g D) g (ct_inn (ct_rk g D) u (ct_ch (K b) b) ((K b).1 + 1) p0) J' := by
  have hw1 := hwb.1
  intro q
  induction q with
  | zero => intro j J h1 h2; omega
  | succ q ih =>
    intro j J h1 h2 hJ
    have hok := ct_inn_ok (D := D) (show g ≤ 32 by omega) hu (ct_ch_lt hwb hb) j p0 hp0
    have hkc := kc_keep (v := nI (ct_inn (ct_rk g D) u (ct_ch (K b) b) j p0).1) hb hw1 hkb hJ
    have e : lX0_addGate_33 n k10 (q + 1) (nI g) (nI a) (nI b) (nI i) (lN (ct_rk g D u)) (nI j) (upM I0 8 g (nI (ct_inn (ct_rk g D) u (ct_ch (K b) b) j p0).1)) J = fX0_addGate_33 n k10 (lX0_addGate_33 n k10 q) (nI g) (nI a) (nI b) (nI i) (lN (ct_rk g D u)) (nI j) (upM I0 8 g (nI (ct_inn (ct_rk g D) u (ct_ch (K b) b) j p0).1)) J := rfl
    rw [e]
    have hin : inb (nI b) 32 = true := inb_nI (by omega) (by decide)
    have h8 : upM I0 8 g (nI (ct_inn (ct_rk g D) u (ct_ch (K b) b) j p0).1) 8 (nI b).toNatClampNeg = nI (K b).1 := by
      rw [clampI (by omega)]; exact hkc.1
    by_cases hj : j = (K b).1 + 1
    · subst hj
      refine ⟨J, ?_, hJ⟩
      rw [f33_end n hin (by rw [h8]; exact nI_lt (by omega) (by omega)), nI_1]
    · obtain ⟨J1, j1, j2, j3⟩ := offer_ok n hn hg hD hu (ct_ch_lt hwb hb j) hok (upM I0 8 g (nI (ct_inn (ct_rk g D) u (ct_ch (K b) b) j p0).1)) J (by rw [upM_get, if_pos rfl, if_pos rfl]) hJ.1
      rw [f33_step n hin (by rw [h8]; exact nI_nlt (by omega) (by omega)) (choice_eq n hb (by omega) hkc hwb (hD b hb) (by omega)) j1, upM_up, nI_1 j]
      exact ih (j + 1) J1 (by omega) (by omega) ⟨j2, fun x y hxy => by rw [j3 x y hxy]; exact hJ.2 x y hxy⟩
theorem ag_out (n : Nat) (hn : 2400 < n) {K : Nat → Cuts} {D : Nat → Nat} {I0 : MI} {J0 : MJ} {g a b : Nat} (hg : g < 32) (ha : a < g) (hb : b < g) (hD : ∀ i, i < g → D i ≤ i) (hka : kcOk K D I0 J0 a) (hwa : ct_ok (ct_rk a D) a (K a)) (hkb : kcOk K D I0 J0 b) (hwb : ct_ok (ct_rk b D) b (K b)) : ∀ q i J, i ≤ (K a).1 + 1 → (K a).1 + 1 < q + i → rowJ J0 (ct_rk g D) g (ct_out (ct_rk g D) (ct_ch (K a) a) (K b).1 (ct_ch (K b) b) i) J → ∃ J', lX0_addGate_10 n q (nI g) (nI a) (nI b) (nI i) (upM I0 8 g (nI (ct_out (ct_rk g D) (ct_ch (K a) a) (K b).1 (ct_ch (K b) b) i).1)) J = some (upM (upM I0 8 g (nI (ct_gl (ct_rk g D) (K a) a (K b) b).1)) 9 g (nI (1 + ct_md D g ((ct_gl (ct_rk g D) (K a) a (K b) b).2 0))), J') ∧ rowJ J0 (ct_rk g D) g (ct_gl (ct_rk g D) (K a) a (K b) b) J' := by
  have hw1 := hwa.1
  have hw2 := hwb.1
  intro q
  induction q with
  | zero => intro i J h1 h2; omega
  | succ q ih =>
    intro i J h1 h2 hJ
    have hok := ct_out_ok (D := D) (show g ≤ 32 by omega) (ct_ch_lt hwa ha) (m := (K b).1) (ct_ch_lt hwb hb) i
    have hkc := kc_keep (v := nI (ct_out (ct_rk g D) (ct_ch (K a) a) (K b).1 (ct_ch (K b) b) i).1) ha hw1 hka hJ
    have e : lX0_addGate_10 n (q + 1) (nI g) (nI a) (nI b) (nI i) (upM I0 8 g (nI (ct_out (ct_rk g D) (ct_ch (K a) a) (K b).1 (ct_ch (K b) b) i).1)) J = fX0_addGate_10 n (lX0_addGate_10 n q) (nI g) (nI a) (nI b) (nI i) (upM I0 8 g (nI (ct_out (ct_rk g D) (ct_ch (K a) a) (K b).1 (ct_ch (K b) b) i).1)) J := rfl
    rw [e]
    have hin : inb (nI a) 32 = true := inb_nI (by omega) (by decide)
    have h8 : upM I0 8 g (nI (ct_out (ct_rk g D) (ct_ch (K a) a) (K b).1 (ct_ch (K b) b) i).1) 8 (nI a).toNatClampNeg = nI (K a).1 := by
      rw [clampI (by omega)]; exact hkc.1
    by_cases hi : i = (K a).1 + 1
    · subst hi
      have h1g : 1 ≤ (ct_gl (ct_rk g D) (K a) a (K b) b).1 := ct_gl_1 (by omega) (by omega)
      have hJ' : rowJ J0 (ct_rk g D) g (ct_gl (ct_rk g D) (K a) a (K b) b) J := hJ
      have hokg : ct_ok (ct_rk g D) g (ct_gl (ct_rk g D) (K a) a (K b) b) := hok
      have e40 : nI g * 40 = nI (40 * g) := by rw [show (40 : Int32) = nI 40 from rfl, pk_mul, Nat.mul_comm]
      obtain ⟨z1, z2, z3, z4⟩ := rk_lt (D := D) (show g ≤ 32 by omega) hD (hokg.2.2 0 (by omega)).1
      have ed : (ushrL (J 10 (nI g * 40).toNatClampNeg) 40).toInt32 = nI (1 + ct_md D g ((ct_gl (ct_rk g D) (K a) a (K b) b).2 0)) := by
        have e0 : J 10 (40 * g) = lN (ct_rk g D ((ct_gl (ct_rk g D) (K a) a (K b) b).2 0)) := hJ'.1 0 (by omega)
        rw [e40, clampI (by omega), e0, shr40 z2 z3 z4, lN_i]
      refine ⟨J, ?_, hJ'⟩
      rw [f10_end n hin (by rw [h8]; exact nI_lt (by omega) (by omega)) (by rw [e40]; exact inb_nI (by omega) (by decide)) (inb_nI (by omega) (by decide)) ed, clampI (by omega)]
      rfl
    · obtain ⟨J1, j1, j2⟩ := ag_in n hn (a := a) hg hb hD hkb hwb (lX0_addGate_10 n q) i (ct_ch (K a) a i) (ct_ch_lt hwa ha i) _ hok n 0 J (by omega) (by omega) hJ
      obtain ⟨J2, j3, j4⟩ := ih (i + 1) J1 (by omega) (by omega) j2
      exact ⟨J2, ((f10_step n hin (by rw [h8]; exact nI_nlt (by omega) (by omega)) (choice_eq n ha (by omega) hkc hwa (hD a ha) (by omega))).trans j1).trans j3, j4⟩
/-- the cuts of a new gate in the class -/
theorem addGate_ok (n : Nat) (hn : 2400 < n) {K : Nat → Cuts} {D : Nat → Nat} {I : MI} {J : MJ} {g a b : Nat} (hg : g < 32) (ha : a < g) (hb : b < g) (hD : ∀ i, i < g → D i ≤ i) (hka : kcOk K D I J a) (hwa : ct_ok (ct_rk a D) a (K a)) (hkb : kcOk K D I J b) (hwb : ct_ok (ct_rk b D) b (K b)) : ∃ J', fX0_addGate n (nI g) (nI a) (nI b) I J = some (upM (upM I 8 g (nI (ct_gl (ct_rk g D) (K a) a (K b) b).1)) 9 g (nI (1 + ct_md D g ((ct_gl (ct_rk g D) (K a) a (K b) b).2 0))), J') ∧ rowJ J (ct_rk g D) g (ct_gl (ct_rk g D) (K a) a (K b) b) J' := by
  unfold fX0_addGate
  rw [if_pos (inb_nI (by omega) (by decide)), clampI (by omega)]
  exact ag_out n hn hg ha hb hD hka hwa hkb hwb n 0 J (by omega) (by have := hwa.1; omega) ⟨fun i hi => absurd hi (Nat.not_lt_zero _), fun _ _ _ => rfl⟩
