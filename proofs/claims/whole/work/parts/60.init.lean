/-! the start -/
theorem init_ok (n : Nat) (hn : 144 < n) : ∃ r : M2, fX9_init n = some r ∧ Inv 2500 (finM r.1) r.2 := by
  obtain ⟨⟨I1, J1⟩, hs, hJ1, hgr, hfr⟩ := shape_ok n hn (w := 3) (h := 3) (r := 2) (k := 2) (by decide) (by decide) (by decide) (by decide) zI zJ
  dsimp only at hJ1 hgr hfr
  refine ⟨(begF I1, J1), ?_, ?_⟩
  · unfold fX9_init
    rw [show fX2_shape n (3 : Int32) (3 : Int32) (2 : Int32) (2 : Int32) zI zJ = fX2_shape n (nI 3) (nI 3) (nI 2) (nI 2) zI zJ from rfl, hs]
    exact begin_eq n (by omega) I1 J1
  dsimp only
  have lo : ∀ a, a < 44 → finM (begF I1) a = begF I1 a := fun a h => if_pos h
  have hi : ∀ a, 44 ≤ a → finM (begF I1) a = iniM a := fun a h => if_neg (by omega)
  have z : ∀ a, a < 44 → (a < 16 ∨ 21 < a) → a ≠ 38 → a ≠ 39 → a ≠ 40 → finM (begF I1) a = zI a := by
    intro a h1 h2 h3 h4 h5
    rw [lo a h1, begF_at a h3 h4 h5, hfr a h2]
  have g : ∀ a, 16 ≤ a → a ≤ 21 → finM (begF I1) a = I1 a := by
    intro a h1 h2
    rw [lo a (by omega), begF_at a (by omega) (by omega) (by omega)]
  have o : ∀ a j, 44 < a → finM (begF I1) a j = 0 := by
    intro a j h
    rw [hi a (by omega)]
    unfold iniM
    rw [if_neg (by omega)]
  have m44 : ∀ j, finM (begF I1) 44 j = iniM 44 j := fun j => by rw [hi 44 (by omega)]
  have e38 : ∀ j, finM (begF I1) 38 j = begF I1 38 j := fun j => by rw [lo 38 (by decide)]
  refine ⟨fun k hk => ?_, Or.inl ⟨?_, ?_⟩, ?_, 0, 0, 0, 0, ?_, ⟨⟨0, ?_, by omega⟩, ?_, fun q => absurd ?_ q, fun q => absurd ?_ q, ?_, Or.inl ?_, fun i hi => by omega⟩, ?_, PW_0 (by rw [m44]; rfl), PP_0 (by rw [m44]; rfl), PF_0 (by rw [m44]; rfl), PE_0 ⟨by rw [m44]; rfl, by rw [m44]; rfl, by rw [m44]; rfl, by rw [m44]; rfl, by rw [m44]; rfl⟩ ⟨by rw [z 1 (by decide) (by decide) (by decide) (by decide) (by decide)]; rfl, by rw [z 1 (by decide) (by decide) (by decide) (by decide) (by decide)]; rfl⟩⟩
  · rw [o 51 _ (by decide), z 43 (by decide) (by decide) (by decide) (by decide) (by decide)]; rfl
  · rw [z 41 (by decide) (by decide) (by decide) (by decide) (by decide)]; rfl
  · rw [m44]; rfl
  · unfold Pf
    rw [z 11 (by decide) (by decide) (by decide) (by decide) (by decide), z 22 (by decide) (by decide) (by decide) (by decide) (by decide), z 28 (by decide) (by decide) (by decide) (by decide) (by decide), z 34 (by decide) (by decide) (by decide) (by decide) (by decide), m44, m44, m44, m44]
    exact ⟨⟨rfl, rfl, rfl, rfl⟩, ⟨Or.inl rfl, Or.inl rfl, Or.inl rfl, Or.inl rfl⟩, fun q => absurd q (by decide), fun q => absurd q (by decide), fun q => absurd q (by decide)⟩
  · refine ⟨⟨by decide, by decide, by decide, by decide⟩, ⟨?_, ?_, ?_, ?_, ?_, ?_, ?_, ?_⟩, fun i hi => by omega, fun k hk => by omega, fun i hi => ?_, fun i hi => ?_, fun i hi => Or.inl (o 49 i (by decide)), fun i _ hi => o 49 i (by decide)⟩
    · rw [z 1 (by decide) (by decide) (by decide) (by decide) (by decide)]; rfl
    · rw [m44]; rfl
    · rw [z 1 (by decide) (by decide) (by decide) (by decide) (by decide)]; rfl
    · rw [m44]; rfl
    · rw [z 1 (by decide) (by decide) (by decide) (by decide) (by decide)]; rfl
    · rw [m44]; rfl
    · rw [z 1 (by decide) (by decide) (by decide) (by decide) (by decide)]; rfl
    · rw [m44]; rfl
    · rw [z 1 (by decide) (by decide) (by decide) (by decide) (by decide)]
      show bt 0 i = _
      rw [b_0]
      simp
    · rw [z 1 (by decide) (by decide) (by decide) (by decide) (by decide)]
      show bt 0 i = _
      rw [b_0]
      simp
  · rw [e38, begF_38]; rfl
  · rw [e38, begF_38, m44]; rfl
  · rw [e38, begF_38]; rfl
  · rw [e38, begF_38]; rfl
  · rw [e38, begF_38, m44]; rfl
  · rw [e38, begF_38]; rfl
  · refine ⟨3, 3, 2, 2, by decide, ⟨?_, ?_, ?_, ?_⟩, ?_, fun t _ => Or.inl (o 60 t (by decide)), fun t _ _ => o 60 t (by decide), fun t ht => ?_⟩
    · rw [m44]; rfl
    · rw [m44]; rfl
    · rw [m44]; rfl
    · rw [m44]; rfl
    · unfold grOk colOk dnOk
      rw [g 16 (by decide) (by decide), g 17 (by decide) (by decide), g 18 (by decide) (by decide), g 19 (by decide) (by decide), g 20 (by decide) (by decide), g 21 (by decide) (by decide)]
      exact hgr
    · rw [hJ1, upN_get, if_pos rfl, if_pos rfl, bl_0, o 60 t (by decide)]
      simp
