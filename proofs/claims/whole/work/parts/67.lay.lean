/-! lay -/
def layM (Y : MI) (t k : Nat) : MI := fun a b => if a = 74 ∧ b < k then Y 68 (40 * t + b) else Y a b
theorem lay_loop (n : Nat) {t fs : Nat} (ht : t < 36) (hf : fs ≤ 37) (Y : MI) (J : MJ) (hY : Y 44 48 = nI fs) : ∀ q k, k ≤ fs → fs < q + k → lX10_lay_41 n q (nI t) (nI k) (layM Y t k) J = some (nI fs, layM Y t fs, J) := by
  intro q
  induction q with
  | zero => intro k h1 h2; omega
  | succ q ih =>
    intro k h1 h2
    show fX10_lay_41 n (lX10_lay_41 n q) (nI t) (nI k) (layM Y t k) J = _
    unfold fX10_lay_41
    have e48 : layM Y t k 44 48 = nI fs := by
      rw [← hY]
      exact if_neg (fun q => absurd q.1 (by decide))
    rw [e48]
    by_cases h : k = fs
    · subst h
      rw [if_pos (Int32.le_refl _)]
    · have e40 : (40 : Int32) * nI t + nI k = nI (40 * t + k) := by
        rw [show (40 : Int32) = nI 40 from rfl, pk_mul, nI_add]
      rw [if_neg (nI_ge (by omega) (by omega)), e40, if_pos (inb_nI (by omega) (by decide)), if_pos (inb_nI (by omega) (by decide)), clampI (by omega), clampI (by omega), nI_1]
      simp only [lt]
      have e : upM (layM Y t k) 74 k (layM Y t k 68 (40 * t + k)) = layM Y t (k + 1) := by
        have e1 : layM Y t k 68 (40 * t + k) = Y 68 (40 * t + k) := if_neg (fun q => absurd q.1 (by decide))
        rw [e1]
        funext a b
        rw [upM_get]
        unfold layM
        by_cases ha : a = 74
        · by_cases hb : b = k
          · rw [if_pos ha, if_pos hb, if_pos ⟨ha, by omega⟩, hb]
          · rw [if_pos ha, if_neg hb]
            by_cases hc : b < k
            · rw [if_pos ⟨ha, hc⟩, if_pos ⟨ha, by omega⟩]
            · rw [if_neg (fun q => hc q.2), if_neg (fun q => hb (by omega))]
        · rw [if_neg ha, if_neg (fun q => ha q.1), if_neg (fun q => ha q.1)]
      rw [e]
      exact ih (k + 1) (by omega) (by omega)
theorem B_lay_ok (n : Nat) (hn : 2400 < n) : B_lay Inv n := by
  intro x m I J hI
  obtain ⟨pr, pq, pf, c, ni, nk, no, pn, ⟨pu, pg, pw, pp, pfr, pe⟩⟩ := id hI
  obtain ⟨w, h, r, k, ⟨w1, w2, g1, g2, o1, o2, c1, c2⟩, ⟨e24, e25, e26, e27⟩, hgr, -, -, -⟩ := pg
  have hwh := wh_le w2 g2
  have f34 := pf.1.2.2.2
  have e24' : ∀ j : Nat, ∀ v : Int32, upM I 43 j v 44 24 = nI w := fun j v => by rw [up43 (by decide)]; exact e24
  have e25' : ∀ j : Nat, ∀ v : Int32, upM I 43 j v 44 25 = nI h := fun j v => by rw [up43 (by decide)]; exact e25
  unfold fX9_lay
  by_cases hx : ∃ o, o < w * h ∧ x = nI o
  case neg =>
    rw [tile_no (T := w * h) (by omega) hgr.2.1 hx]
    simp only [Option.bind_some, if_true]
    rw [ref_3]
    refine rr (j := 1) (f := fX10_lay n x) (by decide) hI ?_
    unfold fX10_lay
    rw [isTile_no (w := w) (h := h) (by omega) (e24' _ _) (e25' _ _) hx]
    simp only [Option.bind_some, if_true]
    rw [no_3]
    rfl
  obtain ⟨t, ht, rfl⟩ := hx
  rw [tile_yes (T := w * h) (by omega) hgr.2.1 ht]
  simp only [Option.bind_some]
  rw [if_neg (by decide)]
  by_cases hf : I 34 0 = 0
  · rw [if_pos hf, ref_2]
    refine rr (j := 0) (f := fX10_lay n (nI t)) (by decide) hI ?_
    unfold fX10_lay
    rw [isTile_yes (w := w) (h := h) (by omega) (e24' _ _) (e25' _ _) ht]
    simp only [Option.bind_some, up43 (show (44 : Nat) ≠ 43 by decide)]
    rw [if_neg (by decide), if_pos (by rw [← f34]; exact hf), no_2]
    rfl
  have hf1 : I 44 14 = 1 := pf.2.1.2.2.2.resolve_left (by rw [← f34]; exact hf)
  obtain ⟨T, hT, eT, hall⟩ := pfr hf1
  have hTT : T = w * h := (nI_eq (by omega) (by omega)).mp (eT.symm.trans hgr.2.1)
  obtain ⟨st, fs, f1, f2, f3, s1, s2, s3, s4⟩ := hall t (by omega)
  rw [if_neg hf, nI_1, if_pos (inb_nI (by omega) (by decide)), if_pos (inb_nI (by omega) (by decide)), clampI (by omega), clampI (by omega), s1, s2]
  have hA : fX4_take n 35 (nI st) (nI (st + fs)) I J = some (upM (cpI (upM I 41 1 (nI fs)) 35 42 st 0 fs) 41 0 1, J) := by
    unfold fX4_take
    have e1 : nI (st + fs) - nI st = nI fs := by rw [pk_sub (by omega), Nat.add_sub_cancel_left]
    have e2 : (if (37 : Int32) < nI fs then (37 : Int32) else nI fs) = nI fs := if_neg (show ¬ (37 : Int32) < nI fs from nI_nlt (b := fs) (a := 37) f2 (by decide))
    rw [e1, e2]
    simp only [lt]
    have e3 : upM I 41 1 (nI fs) 41 1 = nI fs := by rw [upM_get, if_pos rfl, if_pos rfl]
    have ok : okcp (nI st) 0 (nI fs) (alb 44 35) 37 = true := by
      rw [show alb 44 35 = 324 from aln_35]
      apply decide_eq_true
      rw [clampI (by omega), clampI (by omega), show (0 : Int32).toNatClampNeg = 0 from by decide]
      exact ⟨⟨nI_pos (by omega), by decide, nI_pos (by omega), by omega, by omega⟩, by decide, by decide⟩
    rw [e3, if_pos ok, clampI (by omega), clampI (by omega)]
    rfl
  rw [hA]
  simp only [Option.bind_some]
  generalize hC : upM (cpI (upM I 41 1 (nI fs)) 35 42 st 0 fs) 41 0 1 = C
  have hCa : ∀ a, a ≠ 41 → a ≠ 42 → C a = I a := by
    intro a p1 p2
    rw [← hC, upM_ne a p1]
    show (if a = 42 then _ else upM I 41 1 (nI fs) a) = _
    rw [if_neg p2, upM_ne a p1]
  have hC41 : C 41 0 = 1 ∧ C 41 1 = nI fs := by
    rw [← hC]
    constructor
    · rw [upM_get, if_pos rfl, if_pos rfl]
    · rw [upM_get, if_pos rfl, if_neg (by decide)]
      show (if (41 : Nat) = 42 then _ else upM I 41 1 (nI fs) 41) 1 = _
      rw [if_neg (by decide), upM_get, if_pos rfl, if_pos rfl]
  have hC42 : ∀ d, d < fs → C 42 d = I 35 (st + d) := by
    intro d hd
    rw [← hC, upM_ne 42 (by decide)]
    show (if (42 : Nat) = 42 then va_cpy (upM I 41 1 (nI fs) 35) (upM I 41 1 (nI fs) 42) st 0 fs else _) d = _
    rw [if_pos rfl, upM_ne 35 (by decide)]
    show (if 0 ≤ d ∧ d < 0 + fs then I 35 (st + (d - 0)) else _) = _
    rw [if_pos ⟨Nat.zero_le _, by omega⟩, Nat.sub_zero]
  rw [hC41.2]
  refine tot_some.mpr ?_
  dsimp only
  have q44 := hCa 44 (by decide) (by decide)
  have q69 := hCa 69 (by decide) (by decide)
  unfold fX10_lay
  rw [isTile_yes (w := w) (h := h) (by omega) (by rw [q44]; exact e24) (by rw [q44]; exact e25) ht]
  simp only [Option.bind_some, q44, q69, lt]
  rw [if_neg (by decide), if_neg (by rw [hf1]; decide), if_pos (inb_nI (by omega) (by decide)), clampI (by omega), s3]
  have hlp := lay_loop n (t := t) (fs := fs) (by omega) f2 (upM C 44 48 (nI fs)) J (by rw [upM_get, if_pos rfl, if_pos rfl]) n 0 (Nat.zero_le _) (by omega)
  rw [show layM (upM C 44 48 (nI fs)) t 0 = upM C 44 48 (nI fs) from by funext a b; exact if_neg (fun q => by omega)] at hlp
  rw [show lX10_lay_41 n n (nI t) (0 : Int32) = lX10_lay_41 n n (nI t) (nI 0) from rfl, hlp]
  refine tot_some.mpr ⟨rfl, ?_⟩
  dsimp only
  have fin : ∀ a, a ≠ 41 → a ≠ 42 → a ≠ 44 → a ≠ 74 → layM (upM C 44 48 (nI fs)) t fs a = I a := by
    intro a p1 p2 p3 p4
    funext d
    unfold layM
    rw [if_neg (fun q => p4 q.1), upM_ne a p3, hCa a p1 p2]
  have fnc : ∀ a d, a ≠ 44 → a ≠ 74 → layM (upM C 44 48 (nI fs)) t fs a d = C a d := by
    intro a d p3 p4
    unfold layM
    rw [if_neg (fun q => p4 q.1), upM_ne a p3]
  have f44 : ∀ d, layM (upM C 44 48 (nI fs)) t fs 44 d = if d = 48 then nI fs else I 44 d := by
    intro d
    unfold layM
    rw [if_neg (fun q => absurd q.1 (by decide)), upM_get, if_pos rfl, q44]
  refine Inv_row (fun a p1 p2 _ _ p5 p6 p7 => fin a p1 p2 p7 p5) (fun j hj => by rw [f44, if_neg hj]) (PR_fr (fun a ha => ?_) pr) (Or.inr ⟨?_, fs, f2, ?_, ?_, fun d hd => ?_⟩) hI
  · simp only [List.mem_cons, List.not_mem_nil, or_false] at ha
    exact fin a (by omega) (by omega) (by omega) (by omega)
  · rw [fnc 41 0 (by decide) (by decide)]; exact hC41.1
  · rw [fnc 41 1 (by decide) (by decide)]; exact hC41.2
  · rw [f44, if_pos rfl]
  · rw [fnc 42 d (by decide) (by decide), hC42 d hd]
    have e : layM (upM C 44 48 (nI fs)) t fs 74 d = I 68 (40 * t + d) := by
      unfold layM
      rw [if_pos ⟨rfl, hd⟩, upM_ne 68 (by decide), hCa 68 (by decide) (by decide)]
    rw [e]
    exact (s4 d hd).1.symm
