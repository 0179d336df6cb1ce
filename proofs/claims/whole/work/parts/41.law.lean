/-! the law's loop, over any relation of the two systems that every call keeps -/
abbrev TT : Unit → Prop := fun _ => True
/-- m: how many calls may still come -/
def Both (Inv : Nat → MI → MJ → Prop) (fC fM : MI → MJ → Option (Int32 × M2)) : Prop := ∀ m I J, Inv (m + 1) I J → tot (fC I J) (fun r => tot (fM r.2.1 r.2.2) (fun q => r.1 = q.1 ∧ Inv m q.2.1 q.2.2))
theorem both_go {Inv : Nat → MI → MJ → Prop} {m : Nat} {fC fM : MI → MJ → Option (Int32 × M2)} {g : MI → MJ → Option Unit} {I : MI} {J : MJ} (hB : Both Inv fC fM) (hI : Inv (m + 1) I J) (hg : ∀ I J, Inv m I J → tot (g I J) TT) : tot (Option.bind (fC I J) (fun r => Option.bind (fM r.2.1 r.2.2) (fun q => if r.1 = q.1 then g q.2.1 q.2.2 else none))) TT := by
  obtain ⟨r, h1, q, h2, h3, h4⟩ := hB m I J hI
  refine tot_to h1 (tot_to h2 ?_)
  rw [if_pos h3]
  exact hg _ _ h4
def B_input (Inv : Nat → MI → MJ → Prop) (n : Nat) : Prop := Both Inv (fX9_input n ) (fX10_input n )
def B_keeper (Inv : Nat → MI → MJ → Prop) (n : Nat) : Prop := ∀ (a : Int32), (a = 0 ∨ a = 1) → Both Inv (fX9_keeper n a) (fX10_keeper n a)
def B_gate (Inv : Nat → MI → MJ → Prop) (n : Nat) : Prop := ∀ (a : Int32) (b : Int32) (c : Int32), Both Inv (fX9_gate n a b c) (fX10_gate n a b c)
def B_source (Inv : Nat → MI → MJ → Prop) (n : Nat) : Prop := ∀ (a : Int32) (b : Int32), Both Inv (fX9_source n a b) (fX10_source n a b)
def B_out (Inv : Nat → MI → MJ → Prop) (n : Nat) : Prop := ∀ (a : Int32), Both Inv (fX9_out n a) (fX10_out n a)
def B_cell (Inv : Nat → MI → MJ → Prop) (n : Nat) : Prop := ∀ (a : Int32) (b : Int32), Both Inv (fX9_cell n a b) (fX10_cell n a b)
def B_cuts (Inv : Nat → MI → MJ → Prop) (n : Nat) : Prop := ∀ (a : Int32), Both Inv (fX9_cuts n a) (fX10_cuts n a)
def B_cut (Inv : Nat → MI → MJ → Prop) (n : Nat) : Prop := ∀ (a : Int32) (b : Int32), Both Inv (fX9_cut n a b) (fX10_cut n a b)
def B_depth (Inv : Nat → MI → MJ → Prop) (n : Nat) : Prop := ∀ (a : Int32), Both Inv (fX9_depth n a) (fX10_depth n a)
def B_tables (Inv : Nat → MI → MJ → Prop) (n : Nat) : Prop := Both Inv (fX9_tables n ) (fX10_tables n )
def B_table (Inv : Nat → MI → MJ → Prop) (n : Nat) : Prop := ∀ (a : Int32) (b : Int32), Both Inv (fX9_table n a b) (fX10_table n a b)
def B_cloth (Inv : Nat → MI → MJ → Prop) (n : Nat) : Prop := ∀ (a : Int32) (b : Int32) (c : Int32) (d : Int32), Both Inv (fX9_cloth n a b c d) (fX10_cloth n a b c d)
def B_broken (Inv : Nat → MI → MJ → Prop) (n : Nat) : Prop := ∀ (a : Int32) (b : Int32), (b = 0 ∨ b = 1) → Both Inv (fX9_broken n a b) (fX10_broken n a b)
def B_set (Inv : Nat → MI → MJ → Prop) (n : Nat) : Prop := Both Inv (fX9_set n ) (fX10_set n )
def B_tile (Inv : Nat → MI → MJ → Prop) (n : Nat) : Prop := ∀ (a : Int32), Both Inv (fX9_tile n a) (fX10_tile n a)
def B_move (Inv : Nat → MI → MJ → Prop) (n : Nat) : Prop := ∀ (a : Int32) (b : Int32), Both Inv (fX9_move n a b) (fX10_move n a b)
def B_swap (Inv : Nat → MI → MJ → Prop) (n : Nat) : Prop := ∀ (a : Int32) (b : Int32), Both Inv (fX9_swap n a b) (fX10_swap n a b)
def B_smooth (Inv : Nat → MI → MJ → Prop) (n : Nat) : Prop := ∀ (a : Int32) (b : Int64), Both Inv (fX9_smooth n a b) (fX10_smooth n a b)
def B_cost (Inv : Nat → MI → MJ → Prop) (n : Nat) : Prop := Both Inv (fX9_cost n ) (fX10_cost n )
def B_wires (Inv : Nat → MI → MJ → Prop) (n : Nat) : Prop := ∀ (a : Int32) (b : Int32), Both Inv (fX9_wires n a b) (fX10_wires n a b)
def B_lead (Inv : Nat → MI → MJ → Prop) (n : Nat) : Prop := ∀ (a : Int32), Both Inv (fX9_lead n a) (fX10_lead n a)
def B_joint (Inv : Nat → MI → MJ → Prop) (n : Nat) : Prop := ∀ (a : Int32), Both Inv (fX9_joint n a) (fX10_joint n a)
def B_way (Inv : Nat → MI → MJ → Prop) (n : Nat) : Prop := ∀ (a : Int32) (b : Int32), Both Inv (fX9_way n a b) (fX10_way n a b)
def B_side (Inv : Nat → MI → MJ → Prop) (n : Nat) : Prop := ∀ (a : Int32) (b : Int32), Both Inv (fX9_side n a b) (fX10_side n a b)
def B_longest (Inv : Nat → MI → MJ → Prop) (n : Nat) : Prop := Both Inv (fX9_longest n ) (fX10_longest n )
def B_frames (Inv : Nat → MI → MJ → Prop) (n : Nat) : Prop := Both Inv (fX9_frames n ) (fX10_frames n )
def B_octet (Inv : Nat → MI → MJ → Prop) (n : Nat) : Prop := ∀ (a : Int32) (b : Int32), Both Inv (fX9_octet n a b) (fX10_octet n a b)
def B_bend (Inv : Nat → MI → MJ → Prop) (n : Nat) : Prop := ∀ (a : Int32) (b : Int32) (c : Int32), Both Inv (fX9_bend n a b c) (fX10_bend n a b c)
def B_check (Inv : Nat → MI → MJ → Prop) (n : Nat) : Prop := Both Inv (fX9_check n ) (fX10_check n )
def B_back (Inv : Nat → MI → MJ → Prop) (n : Nat) : Prop := Both Inv (fX9_back n ) (fX10_back n )
def B_start (Inv : Nat → MI → MJ → Prop) (n : Nat) : Prop := Both Inv (fX9_start n ) (fX10_start n )
def B_clock (Inv : Nat → MI → MJ → Prop) (n : Nat) : Prop := ∀ (a : Int32), Both Inv (fX9_clock n a) (fX10_clock n a)
def B_told (Inv : Nat → MI → MJ → Prop) (n : Nat) : Prop := ∀ (a : Int32), Both Inv (fX9_told n a) (fX10_told n a)
def B_lay (Inv : Nat → MI → MJ → Prop) (n : Nat) : Prop := ∀ (a : Int32), Both Inv (fX9_lay n a) (fX10_lay n a)
def B_tear (Inv : Nat → MI → MJ → Prop) (n : Nat) : Prop := Both Inv (fX9_tear n ) (fX10_tear n )
def B_row (Inv : Nat → MI → MJ → Prop) (n : Nat) : Prop := ∀ (a : Int32), Both Inv (fX9_row n a) (fX10_row n a)
def B_copy (Inv : Nat → MI → MJ → Prop) (n : Nat) : Prop := ∀ (a : Int32) (b : Int32) (c : Int32), Both Inv (fX9_copy n a b c) (fX10_copy n a b c)
def B_status (Inv : Nat → MI → MJ → Prop) (n : Nat) : Prop := ∀ (a : Int32), Both Inv (fX9_status n a) (fX10_status n a)
def AllB (Inv : Nat → MI → MJ → Prop) (n : Nat) : Prop := B_input Inv n ∧ B_keeper Inv n ∧ B_gate Inv n ∧ B_source Inv n ∧ B_out Inv n ∧ B_cell Inv n ∧ B_cuts Inv n ∧ B_cut Inv n ∧ B_depth Inv n ∧ B_tables Inv n ∧ B_table Inv n ∧ B_cloth Inv n ∧ B_broken Inv n ∧ B_set Inv n ∧ B_tile Inv n ∧ B_move Inv n ∧ B_swap Inv n ∧ B_smooth Inv n ∧ B_cost Inv n ∧ B_wires Inv n ∧ B_lead Inv n ∧ B_joint Inv n ∧ B_way Inv n ∧ B_side Inv n ∧ B_longest Inv n ∧ B_frames Inv n ∧ B_octet Inv n ∧ B_bend Inv n ∧ B_check Inv n ∧ B_back Inv n ∧ B_start Inv n ∧ B_clock Inv n ∧ B_told Inv n ∧ B_lay Inv n ∧ B_tear Inv n ∧ B_row Inv n ∧ B_copy Inv n ∧ B_status Inv n
theorem k_input {Inv : Nat → MI → MJ → Prop} {m n L : Nat} {xs : Nat → Int32} {k : Int32 → MI → MJ → Option Unit} {x3 : Int32} {I : MI} {J : MJ} (h1 : inb (x3 + (1 : Int32)) L = true) (h2 : inb (x3 + (2 : Int32)) L = true) (h3 : inb (x3 + (3 : Int32)) L = true) (h4 : inb (x3 + (4 : Int32)) L = true) (hB : B_input Inv n) (hI : Inv (m + 1) I J) (hk : ∀ I J, Inv m I J → tot (k (x3 + (5 : Int32)) I J) TT) : tot (fL_law_200 n L xs k x3 I J) TT := by
  unfold fL_law_200
  exact both_go (g := fun I J => fL_law_1246 n L xs k x3 I J) hB hI hk
theorem k_keeper {Inv : Nat → MI → MJ → Prop} {m n L : Nat} {xs : Nat → Int32} {k : Int32 → MI → MJ → Option Unit} {x3 : Int32} {I : MI} {J : MJ} (h1 : inb (x3 + (1 : Int32)) L = true) (h2 : inb (x3 + (2 : Int32)) L = true) (h3 : inb (x3 + (3 : Int32)) L = true) (h4 : inb (x3 + (4 : Int32)) L = true) (hB : B_keeper Inv n) (hI : Inv (m + 1) I J) (hk : ∀ I J, Inv m I J → tot (k (x3 + (5 : Int32)) I J) TT) : tot (fL_law_213 n L xs k x3 I J) TT := by
  unfold fL_law_213 fL_law_227 fL_law_244
  simp only [h1, h2, h3, h4, if_true]
  by_cases hz : (xs (x3 + (1 : Int32)).toNatClampNeg) = 0
  · simp only [hz, if_true]
    exact both_go (g := fun I J => fL_law_1246 n L xs k x3 I J) (hB _ (Or.inl rfl)) hI hk
  · simp only [if_neg hz]
    exact both_go (g := fun I J => fL_law_1246 n L xs k x3 I J) (hB _ (Or.inr rfl)) hI hk
theorem k_gate {Inv : Nat → MI → MJ → Prop} {m n L : Nat} {xs : Nat → Int32} {k : Int32 → MI → MJ → Option Unit} {x3 : Int32} {I : MI} {J : MJ} (h1 : inb (x3 + (1 : Int32)) L = true) (h2 : inb (x3 + (2 : Int32)) L = true) (h3 : inb (x3 + (3 : Int32)) L = true) (h4 : inb (x3 + (4 : Int32)) L = true) (hB : B_gate Inv n) (hI : Inv (m + 1) I J) (hk : ∀ I J, Inv m I J → tot (k (x3 + (5 : Int32)) I J) TT) : tot (fL_law_252 n L xs k x3 I J) TT := by
  unfold fL_law_252
  simp only [h1, h2, h3, h4, if_true]
  exact both_go (g := fun I J => fL_law_1246 n L xs k x3 I J) (hB _ _ _) hI hk
theorem k_source {Inv : Nat → MI → MJ → Prop} {m n L : Nat} {xs : Nat → Int32} {k : Int32 → MI → MJ → Option Unit} {x3 : Int32} {I : MI} {J : MJ} (h1 : inb (x3 + (1 : Int32)) L = true) (h2 : inb (x3 + (2 : Int32)) L = true) (h3 : inb (x3 + (3 : Int32)) L = true) (h4 : inb (x3 + (4 : Int32)) L = true) (hB : B_source Inv n) (hI : Inv (m + 1) I J) (hk : ∀ I J, Inv m I J → tot (k (x3 + (5 : Int32)) I J) TT) : tot (fL_law_295 n L xs k x3 I J) TT := by
  unfold fL_law_295
  simp only [h1, h2, h3, h4, if_true]
  exact both_go (g := fun I J => fL_law_1246 n L xs k x3 I J) (hB _ _) hI hk
theorem k_out {Inv : Nat → MI → MJ → Prop} {m n L : Nat} {xs : Nat → Int32} {k : Int32 → MI → MJ → Option Unit} {x3 : Int32} {I : MI} {J : MJ} (h1 : inb (x3 + (1 : Int32)) L = true) (h2 : inb (x3 + (2 : Int32)) L = true) (h3 : inb (x3 + (3 : Int32)) L = true) (h4 : inb (x3 + (4 : Int32)) L = true) (hB : B_out Inv n) (hI : Inv (m + 1) I J) (hk : ∀ I J, Inv m I J → tot (k (x3 + (5 : Int32)) I J) TT) : tot (fL_law_328 n L xs k x3 I J) TT := by
  unfold fL_law_328
  simp only [h1, h2, h3, h4, if_true]
  exact both_go (g := fun I J => fL_law_1246 n L xs k x3 I J) (hB _) hI hk
theorem k_cell {Inv : Nat → MI → MJ → Prop} {m n L : Nat} {xs : Nat → Int32} {k : Int32 → MI → MJ → Option Unit} {x3 : Int32} {I : MI} {J : MJ} (h1 : inb (x3 + (1 : Int32)) L = true) (h2 : inb (x3 + (2 : Int32)) L = true) (h3 : inb (x3 + (3 : Int32)) L = true) (h4 : inb (x3 + (4 : Int32)) L = true) (hB : B_cell Inv n) (hI : Inv (m + 1) I J) (hk : ∀ I J, Inv m I J → tot (k (x3 + (5 : Int32)) I J) TT) : tot (fL_law_351 n L xs k x3 I J) TT := by
  unfold fL_law_351
  simp only [h1, h2, h3, h4, if_true]
  exact both_go (g := fun I J => fL_law_1246 n L xs k x3 I J) (hB _ _) hI hk
theorem k_cuts {Inv : Nat → MI → MJ → Prop} {m n L : Nat} {xs : Nat → Int32} {k : Int32 → MI → MJ → Option Unit} {x3 : Int32} {I : MI} {J : MJ} (h1 : inb (x3 + (1 : Int32)) L = true) (h2 : inb (x3 + (2 : Int32)) L = true) (h3 : inb (x3 + (3 : Int32)) L = true) (h4 : inb (x3 + (4 : Int32)) L = true) (hB : B_cuts Inv n) (hI : Inv (m + 1) I J) (hk : ∀ I J, Inv m I J → tot (k (x3 + (5 : Int32)) I J) TT) : tot (fL_law_384 n L xs k x3 I J) TT := by
  unfold fL_law_384
  simp only [h1, h2, h3, h4, if_true]
  exact both_go (g := fun I J => fL_law_1246 n L xs k x3 I J) (hB _) hI hk
theorem k_cut {Inv : Nat → MI → MJ → Prop} {m n L : Nat} {xs : Nat → Int32} {k : Int32 → MI → MJ → Option Unit} {x3 : Int32} {I : MI} {J : MJ} (h1 : inb (x3 + (1 : Int32)) L = true) (h2 : inb (x3 + (2 : Int32)) L = true) (h3 : inb (x3 + (3 : Int32)) L = true) (h4 : inb (x3 + (4 : Int32)) L = true) (hB : B_cut Inv n) (hI : Inv (m + 1) I J) (hk : ∀ I J, Inv m I J → tot (k (x3 + (5 : Int32)) I J) TT) : tot (fL_law_407 n L xs k x3 I J) TT := by
  unfold fL_law_407
  simp only [h1, h2, h3, h4, if_true]
  exact both_go (g := fun I J => fL_law_1246 n L xs k x3 I J) (hB _ _) hI hk
theorem k_depth {Inv : Nat → MI → MJ → Prop} {m n L : Nat} {xs : Nat → Int32} {k : Int32 → MI → MJ → Option Unit} {x3 : Int32} {I : MI} {J : MJ} (h1 : inb (x3 + (1 : Int32)) L = true) (h2 : inb (x3 + (2 : Int32)) L = true) (h3 : inb (x3 + (3 : Int32)) L = true) (h4 : inb (x3 + (4 : Int32)) L = true) (hB : B_depth Inv n) (hI : Inv (m + 1) I J) (hk : ∀ I J, Inv m I J → tot (k (x3 + (5 : Int32)) I J) TT) : tot (fL_law_440 n L xs k x3 I J) TT := by
  unfold fL_law_440
  simp only [h1, h2, h3, h4, if_true]
  exact both_go (g := fun I J => fL_law_1246 n L xs k x3 I J) (hB _) hI hk
theorem k_tables {Inv : Nat → MI → MJ → Prop} {m n L : Nat} {xs : Nat → Int32} {k : Int32 → MI → MJ → Option Unit} {x3 : Int32} {I : MI} {J : MJ} (h1 : inb (x3 + (1 : Int32)) L = true) (h2 : inb (x3 + (2 : Int32)) L = true) (h3 : inb (x3 + (3 : Int32)) L = true) (h4 : inb (x3 + (4 : Int32)) L = true) (hB : B_tables Inv n) (hI : Inv (m + 1) I J) (hk : ∀ I J, Inv m I J → tot (k (x3 + (5 : Int32)) I J) TT) : tot (fL_law_463 n L xs k x3 I J) TT := by
  unfold fL_law_463
  exact both_go (g := fun I J => fL_law_1246 n L xs k x3 I J) hB hI hk
theorem k_table {Inv : Nat → MI → MJ → Prop} {m n L : Nat} {xs : Nat → Int32} {k : Int32 → MI → MJ → Option Unit} {x3 : Int32} {I : MI} {J : MJ} (h1 : inb (x3 + (1 : Int32)) L = true) (h2 : inb (x3 + (2 : Int32)) L = true) (h3 : inb (x3 + (3 : Int32)) L = true) (h4 : inb (x3 + (4 : Int32)) L = true) (hB : B_table Inv n) (hI : Inv (m + 1) I J) (hk : ∀ I J, Inv m I J → tot (k (x3 + (5 : Int32)) I J) TT) : tot (fL_law_476 n L xs k x3 I J) TT := by
  unfold fL_law_476
  simp only [h1, h2, h3, h4, if_true]
  exact both_go (g := fun I J => fL_law_1246 n L xs k x3 I J) (hB _ _) hI hk
theorem k_cloth {Inv : Nat → MI → MJ → Prop} {m n L : Nat} {xs : Nat → Int32} {k : Int32 → MI → MJ → Option Unit} {x3 : Int32} {I : MI} {J : MJ} (h1 : inb (x3 + (1 : Int32)) L = true) (h2 : inb (x3 + (2 : Int32)) L = true) (h3 : inb (x3 + (3 : Int32)) L = true) (h4 : inb (x3 + (4 : Int32)) L = true) (hB : B_cloth Inv n) (hI : Inv (m + 1) I J) (hk : ∀ I J, Inv m I J → tot (k (x3 + (5 : Int32)) I J) TT) : tot (fL_law_509 n L xs k x3 I J) TT := by
  unfold fL_law_509
  simp only [h1, h2, h3, h4, if_true]
  exact both_go (g := fun I J => fL_law_1246 n L xs k x3 I J) (hB _ _ _ _) hI hk
theorem k_broken {Inv : Nat → MI → MJ → Prop} {m n L : Nat} {xs : Nat → Int32} {k : Int32 → MI → MJ → Option Unit} {x3 : Int32} {I : MI} {J : MJ} (h1 : inb (x3 + (1 : Int32)) L = true) (h2 : inb (x3 + (2 : Int32)) L = true) (h3 : inb (x3 + (3 : Int32)) L = true) (h4 : inb (x3 + (4 : Int32)) L = true) (hB : B_broken Inv n) (hI : Inv (m + 1) I J) (hk : ∀ I J, Inv m I J → tot (k (x3 + (5 : Int32)) I J) TT) : tot (fL_law_562 n L xs k x3 I J) TT := by
  unfold fL_law_562 fL_law_581 fL_law_603
  simp only [h1, h2, h3, h4, if_true]
  by_cases hz : (xs (x3 + (2 : Int32)).toNatClampNeg) = 0
  · simp only [hz, if_true]
    exact both_go (g := fun I J => fL_law_1246 n L xs k x3 I J) (hB _ _ (Or.inl rfl)) hI hk
  · simp only [if_neg hz]
    exact both_go (g := fun I J => fL_law_1246 n L xs k x3 I J) (hB _ _ (Or.inr rfl)) hI hk
theorem k_set {Inv : Nat → MI → MJ → Prop} {m n L : Nat} {xs : Nat → Int32} {k : Int32 → MI → MJ → Option Unit} {x3 : Int32} {I : MI} {J : MJ} (h1 : inb (x3 + (1 : Int32)) L = true) (h2 : inb (x3 + (2 : Int32)) L = true) (h3 : inb (x3 + (3 : Int32)) L = true) (h4 : inb (x3 + (4 : Int32)) L = true) (hB : B_set Inv n) (hI : Inv (m + 1) I J) (hk : ∀ I J, Inv m I J → tot (k (x3 + (5 : Int32)) I J) TT) : tot (fL_law_611 n L xs k x3 I J) TT := by
  unfold fL_law_611
  exact both_go (g := fun I J => fL_law_1246 n L xs k x3 I J) hB hI hk
theorem k_tile {Inv : Nat → MI → MJ → Prop} {m n L : Nat} {xs : Nat → Int32} {k : Int32 → MI → MJ → Option Unit} {x3 : Int32} {I : MI} {J : MJ} (h1 : inb (x3 + (1 : Int32)) L = true) (h2 : inb (x3 + (2 : Int32)) L = true) (h3 : inb (x3 + (3 : Int32)) L = true) (h4 : inb (x3 + (4 : Int32)) L = true) (hB : B_tile Inv n) (hI : Inv (m + 1) I J) (hk : ∀ I J, Inv m I J → tot (k (x3 + (5 : Int32)) I J) TT) : tot (fL_law_624 n L xs k x3 I J) TT := by
  unfold fL_law_624
  simp only [h1, h2, h3, h4, if_true]
  exact both_go (g := fun I J => fL_law_1246 n L xs k x3 I J) (hB _) hI hk
theorem k_move {Inv : Nat → MI → MJ → Prop} {m n L : Nat} {xs : Nat → Int32} {k : Int32 → MI → MJ → Option Unit} {x3 : Int32} {I : MI} {J : MJ} (h1 : inb (x3 + (1 : Int32)) L = true) (h2 : inb (x3 + (2 : Int32)) L = true) (h3 : inb (x3 + (3 : Int32)) L = true) (h4 : inb (x3 + (4 : Int32)) L = true) (hB : B_move Inv n) (hI : Inv (m + 1) I J) (hk : ∀ I J, Inv m I J → tot (k (x3 + (5 : Int32)) I J) TT) : tot (fL_law_647 n L xs k x3 I J) TT := by
  unfold fL_law_647
  simp only [h1, h2, h3, h4, if_true]
  exact both_go (g := fun I J => fL_law_1246 n L xs k x3 I J) (hB _ _) hI hk
theorem k_swap {Inv : Nat → MI → MJ → Prop} {m n L : Nat} {xs : Nat → Int32} {k : Int32 → MI → MJ → Option Unit} {x3 : Int32} {I : MI} {J : MJ} (h1 : inb (x3 + (1 : Int32)) L = true) (h2 : inb (x3 + (2 : Int32)) L = true) (h3 : inb (x3 + (3 : Int32)) L = true) (h4 : inb (x3 + (4 : Int32)) L = true) (hB : B_swap Inv n) (hI : Inv (m + 1) I J) (hk : ∀ I J, Inv m I J → tot (k (x3 + (5 : Int32)) I J) TT) : tot (fL_law_680 n L xs k x3 I J) TT := by
  unfold fL_law_680
  simp only [h1, h2, h3, h4, if_true]
  exact both_go (g := fun I J => fL_law_1246 n L xs k x3 I J) (hB _ _) hI hk
theorem k_smooth {Inv : Nat → MI → MJ → Prop} {m n L : Nat} {xs : Nat → Int32} {k : Int32 → MI → MJ → Option Unit} {x3 : Int32} {I : MI} {J : MJ} (h1 : inb (x3 + (1 : Int32)) L = true) (h2 : inb (x3 + (2 : Int32)) L = true) (h3 : inb (x3 + (3 : Int32)) L = true) (h4 : inb (x3 + (4 : Int32)) L = true) (hB : B_smooth Inv n) (hI : Inv (m + 1) I J) (hk : ∀ I J, Inv m I J → tot (k (x3 + (5 : Int32)) I J) TT) : tot (fL_law_713 n L xs k x3 I J) TT := by
  unfold fL_law_713
  simp only [h1, h2, h3, h4, if_true]
  exact both_go (g := fun I J => fL_law_1246 n L xs k x3 I J) (hB _ _) hI hk
theorem k_cost {Inv : Nat → MI → MJ → Prop} {m n L : Nat} {xs : Nat → Int32} {k : Int32 → MI → MJ → Option Unit} {x3 : Int32} {I : MI} {J : MJ} (h1 : inb (x3 + (1 : Int32)) L = true) (h2 : inb (x3 + (2 : Int32)) L = true) (h3 : inb (x3 + (3 : Int32)) L = true) (h4 : inb (x3 + (4 : Int32)) L = true) (hB : B_cost Inv n) (hI : Inv (m + 1) I J) (hk : ∀ I J, Inv m I J → tot (k (x3 + (5 : Int32)) I J) TT) : tot (fL_law_776 n L xs k x3 I J) TT := by
  unfold fL_law_776
  exact both_go (g := fun I J => fL_law_1246 n L xs k x3 I J) hB hI hk
theorem k_wires {Inv : Nat → MI → MJ → Prop} {m n L : Nat} {xs : Nat → Int32} {k : Int32 → MI → MJ → Option Unit} {x3 : Int32} {I : MI} {J : MJ} (h1 : inb (x3 + (1 : Int32)) L = true) (h2 : inb (x3 + (2 : Int32)) L = true) (h3 : inb (x3 + (3 : Int32)) L = true) (h4 : inb (x3 + (4 : Int32)) L = true) (hB : B_wires Inv n) (hI : Inv (m + 1) I J) (hk : ∀ I J, Inv m I J → tot (k (x3 + (5 : Int32)) I J) TT) : tot (fL_law_789 n L xs k x3 I J) TT := by
  unfold fL_law_789
  simp only [h1, h2, h3, h4, if_true]
  exact both_go (g := fun I J => fL_law_1246 n L xs k x3 I J) (hB _ _) hI hk
theorem k_lead {Inv : Nat → MI → MJ → Prop} {m n L : Nat} {xs : Nat → Int32} {k : Int32 → MI → MJ → Option Unit} {x3 : Int32} {I : MI} {J : MJ} (h1 : inb (x3 + (1 : Int32)) L = true) (h2 : inb (x3 + (2 : Int32)) L = true) (h3 : inb (x3 + (3 : Int32)) L = true) (h4 : inb (x3 + (4 : Int32)) L = true) (hB : B_lead Inv n) (hI : Inv (m + 1) I J) (hk : ∀ I J, Inv m I J → tot (k (x3 + (5 : Int32)) I J) TT) : tot (fL_law_822 n L xs k x3 I J) TT := by
  unfold fL_law_822
  simp only [h1, h2, h3, h4, if_true]
  exact both_go (g := fun I J => fL_law_1246 n L xs k x3 I J) (hB _) hI hk
theorem k_joint {Inv : Nat → MI → MJ → Prop} {m n L : Nat} {xs : Nat → Int32} {k : Int32 → MI → MJ → Option Unit} {x3 : Int32} {I : MI} {J : MJ} (h1 : inb (x3 + (1 : Int32)) L = true) (h2 : inb (x3 + (2 : Int32)) L = true) (h3 : inb (x3 + (3 : Int32)) L = true) (h4 : inb (x3 + (4 : Int32)) L = true) (hB : B_joint Inv n) (hI : Inv (m + 1) I J) (hk : ∀ I J, Inv m I J → tot (k (x3 + (5 : Int32)) I J) TT) : tot (fL_law_845 n L xs k x3 I J) TT := by
  unfold fL_law_845
  simp only [h1, h2, h3, h4, if_true]
  exact both_go (g := fun I J => fL_law_1246 n L xs k x3 I J) (hB _) hI hk
theorem k_way {Inv : Nat → MI → MJ → Prop} {m n L : Nat} {xs : Nat → Int32} {k : Int32 → MI → MJ → Option Unit} {x3 : Int32} {I : MI} {J : MJ} (h1 : inb (x3 + (1 : Int32)) L = true) (h2 : inb (x3 + (2 : Int32)) L = true) (h3 : inb (x3 + (3 : Int32)) L = true) (h4 : inb (x3 + (4 : Int32)) L = true) (hB : B_way Inv n) (hI : Inv (m + 1) I J) (hk : ∀ I J, Inv m I J → tot (k (x3 + (5 : Int32)) I J) TT) : tot (fL_law_868 n L xs k x3 I J) TT := by
  unfold fL_law_868
  simp only [h1, h2, h3, h4, if_true]
  exact both_go (g := fun I J => fL_law_1246 n L xs k x3 I J) (hB _ _) hI hk
theorem k_side {Inv : Nat → MI → MJ → Prop} {m n L : Nat} {xs : Nat → Int32} {k : Int32 → MI → MJ → Option Unit} {x3 : Int32} {I : MI} {J : MJ} (h1 : inb (x3 + (1 : Int32)) L = true) (h2 : inb (x3 + (2 : Int32)) L = true) (h3 : inb (x3 + (3 : Int32)) L = true) (h4 : inb (x3 + (4 : Int32)) L = true) (hB : B_side Inv n) (hI : Inv (m + 1) I J) (hk : ∀ I J, Inv m I J → tot (k (x3 + (5 : Int32)) I J) TT) : tot (fL_law_901 n L xs k x3 I J) TT := by
  unfold fL_law_901
  simp only [h1, h2, h3, h4, if_true]
  exact both_go (g := fun I J => fL_law_1246 n L xs k x3 I J) (hB _ _) hI hk
theorem k_longest {Inv : Nat → MI → MJ → Prop} {m n L : Nat} {xs : Nat → Int32} {k : Int32 → MI → MJ → Option Unit} {x3 : Int32} {I : MI} {J : MJ} (h1 : inb (x3 + (1 : Int32)) L = true) (h2 : inb (x3 + (2 : Int32)) L = true) (h3 : inb (x3 + (3 : Int32)) L = true) (h4 : inb (x3 + (4 : Int32)) L = true) (hB : B_longest Inv n) (hI : Inv (m + 1) I J) (hk : ∀ I J, Inv m I J → tot (k (x3 + (5 : Int32)) I J) TT) : tot (fL_law_934 n L xs k x3 I J) TT := by
  unfold fL_law_934
  exact both_go (g := fun I J => fL_law_1246 n L xs k x3 I J) hB hI hk
theorem k_frames {Inv : Nat → MI → MJ → Prop} {m n L : Nat} {xs : Nat → Int32} {k : Int32 → MI → MJ → Option Unit} {x3 : Int32} {I : MI} {J : MJ} (h1 : inb (x3 + (1 : Int32)) L = true) (h2 : inb (x3 + (2 : Int32)) L = true) (h3 : inb (x3 + (3 : Int32)) L = true) (h4 : inb (x3 + (4 : Int32)) L = true) (hB : B_frames Inv n) (hI : Inv (m + 1) I J) (hk : ∀ I J, Inv m I J → tot (k (x3 + (5 : Int32)) I J) TT) : tot (fL_law_947 n L xs k x3 I J) TT := by
  unfold fL_law_947
  exact both_go (g := fun I J => fL_law_1246 n L xs k x3 I J) hB hI hk
theorem k_octet {Inv : Nat → MI → MJ → Prop} {m n L : Nat} {xs : Nat → Int32} {k : Int32 → MI → MJ → Option Unit} {x3 : Int32} {I : MI} {J : MJ} (h1 : inb (x3 + (1 : Int32)) L = true) (h2 : inb (x3 + (2 : Int32)) L = true) (h3 : inb (x3 + (3 : Int32)) L = true) (h4 : inb (x3 + (4 : Int32)) L = true) (hB : B_octet Inv n) (hI : Inv (m + 1) I J) (hk : ∀ I J, Inv m I J → tot (k (x3 + (5 : Int32)) I J) TT) : tot (fL_law_960 n L xs k x3 I J) TT := by
  unfold fL_law_960
  simp only [h1, h2, h3, h4, if_true]
  exact both_go (g := fun I J => fL_law_1246 n L xs k x3 I J) (hB _ _) hI hk
theorem k_bend {Inv : Nat → MI → MJ → Prop} {m n L : Nat} {xs : Nat → Int32} {k : Int32 → MI → MJ → Option Unit} {x3 : Int32} {I : MI} {J : MJ} (h1 : inb (x3 + (1 : Int32)) L = true) (h2 : inb (x3 + (2 : Int32)) L = true) (h3 : inb (x3 + (3 : Int32)) L = true) (h4 : inb (x3 + (4 : Int32)) L = true) (hB : B_bend Inv n) (hI : Inv (m + 1) I J) (hk : ∀ I J, Inv m I J → tot (k (x3 + (5 : Int32)) I J) TT) : tot (fL_law_993 n L xs k x3 I J) TT := by
  unfold fL_law_993
  simp only [h1, h2, h3, h4, if_true]
  exact both_go (g := fun I J => fL_law_1246 n L xs k x3 I J) (hB _ _ _) hI hk
theorem k_check {Inv : Nat → MI → MJ → Prop} {m n L : Nat} {xs : Nat → Int32} {k : Int32 → MI → MJ → Option Unit} {x3 : Int32} {I : MI} {J : MJ} (h1 : inb (x3 + (1 : Int32)) L = true) (h2 : inb (x3 + (2 : Int32)) L = true) (h3 : inb (x3 + (3 : Int32)) L = true) (h4 : inb (x3 + (4 : Int32)) L = true) (hB : B_check Inv n) (hI : Inv (m + 1) I J) (hk : ∀ I J, Inv m I J → tot (k (x3 + (5 : Int32)) I J) TT) : tot (fL_law_1036 n L xs k x3 I J) TT := by
  unfold fL_law_1036
  exact both_go (g := fun I J => fL_law_1246 n L xs k x3 I J) hB hI hk
theorem k_back {Inv : Nat → MI → MJ → Prop} {m n L : Nat} {xs : Nat → Int32} {k : Int32 → MI → MJ → Option Unit} {x3 : Int32} {I : MI} {J : MJ} (h1 : inb (x3 + (1 : Int32)) L = true) (h2 : inb (x3 + (2 : Int32)) L = true) (h3 : inb (x3 + (3 : Int32)) L = true) (h4 : inb (x3 + (4 : Int32)) L = true) (hB : B_back Inv n) (hI : Inv (m + 1) I J) (hk : ∀ I J, Inv m I J → tot (k (x3 + (5 : Int32)) I J) TT) : tot (fL_law_1049 n L xs k x3 I J) TT := by
  unfold fL_law_1049
  exact both_go (g := fun I J => fL_law_1246 n L xs k x3 I J) hB hI hk
theorem k_start {Inv : Nat → MI → MJ → Prop} {m n L : Nat} {xs : Nat → Int32} {k : Int32 → MI → MJ → Option Unit} {x3 : Int32} {I : MI} {J : MJ} (h1 : inb (x3 + (1 : Int32)) L = true) (h2 : inb (x3 + (2 : Int32)) L = true) (h3 : inb (x3 + (3 : Int32)) L = true) (h4 : inb (x3 + (4 : Int32)) L = true) (hB : B_start Inv n) (hI : Inv (m + 1) I J) (hk : ∀ I J, Inv m I J → tot (k (x3 + (5 : Int32)) I J) TT) : tot (fL_law_1062 n L xs k x3 I J) TT := by
  unfold fL_law_1062
  exact both_go (g := fun I J => fL_law_1246 n L xs k x3 I J) hB hI hk
theorem k_clock {Inv : Nat → MI → MJ → Prop} {m n L : Nat} {xs : Nat → Int32} {k : Int32 → MI → MJ → Option Unit} {x3 : Int32} {I : MI} {J : MJ} (h1 : inb (x3 + (1 : Int32)) L = true) (h2 : inb (x3 + (2 : Int32)) L = true) (h3 : inb (x3 + (3 : Int32)) L = true) (h4 : inb (x3 + (4 : Int32)) L = true) (hB : B_clock Inv n) (hI : Inv (m + 1) I J) (hk : ∀ I J, Inv m I J → tot (k (x3 + (5 : Int32)) I J) TT) : tot (fL_law_1075 n L xs k x3 I J) TT := by
  unfold fL_law_1075
  simp only [h1, h2, h3, h4, if_true]
  exact both_go (g := fun I J => fL_law_1246 n L xs k x3 I J) (hB _) hI hk
theorem k_told {Inv : Nat → MI → MJ → Prop} {m n L : Nat} {xs : Nat → Int32} {k : Int32 → MI → MJ → Option Unit} {x3 : Int32} {I : MI} {J : MJ} (h1 : inb (x3 + (1 : Int32)) L = true) (h2 : inb (x3 + (2 : Int32)) L = true) (h3 : inb (x3 + (3 : Int32)) L = true) (h4 : inb (x3 + (4 : Int32)) L = true) (hB : B_told Inv n) (hI : Inv (m + 1) I J) (hk : ∀ I J, Inv m I J → tot (k (x3 + (5 : Int32)) I J) TT) : tot (fL_law_1098 n L xs k x3 I J) TT := by
  unfold fL_law_1098
  simp only [h1, h2, h3, h4, if_true]
  exact both_go (g := fun I J => fL_law_1246 n L xs k x3 I J) (hB _) hI hk
theorem k_lay {Inv : Nat → MI → MJ → Prop} {m n L : Nat} {xs : Nat → Int32} {k : Int32 → MI → MJ → Option Unit} {x3 : Int32} {I : MI} {J : MJ} (h1 : inb (x3 + (1 : Int32)) L = true) (h2 : inb (x3 + (2 : Int32)) L = true) (h3 : inb (x3 + (3 : Int32)) L = true) (h4 : inb (x3 + (4 : Int32)) L = true) (hB : B_lay Inv n) (hI : Inv (m + 1) I J) (hk : ∀ I J, Inv m I J → tot (k (x3 + (5 : Int32)) I J) TT) : tot (fL_law_1121 n L xs k x3 I J) TT := by
  unfold fL_law_1121
  simp only [h1, h2, h3, h4, if_true]
  exact both_go (g := fun I J => fL_law_1246 n L xs k x3 I J) (hB _) hI hk
theorem k_tear {Inv : Nat → MI → MJ → Prop} {m n L : Nat} {xs : Nat → Int32} {k : Int32 → MI → MJ → Option Unit} {x3 : Int32} {I : MI} {J : MJ} (h1 : inb (x3 + (1 : Int32)) L = true) (h2 : inb (x3 + (2 : Int32)) L = true) (h3 : inb (x3 + (3 : Int32)) L = true) (h4 : inb (x3 + (4 : Int32)) L = true) (hB : B_tear Inv n) (hI : Inv (m + 1) I J) (hk : ∀ I J, Inv m I J → tot (k (x3 + (5 : Int32)) I J) TT) : tot (fL_law_1144 n L xs k x3 I J) TT := by
  unfold fL_law_1144
  exact both_go (g := fun I J => fL_law_1246 n L xs k x3 I J) hB hI hk
theorem k_row {Inv : Nat → MI → MJ → Prop} {m n L : Nat} {xs : Nat → Int32} {k : Int32 → MI → MJ → Option Unit} {x3 : Int32} {I : MI} {J : MJ} (h1 : inb (x3 + (1 : Int32)) L = true) (h2 : inb (x3 + (2 : Int32)) L = true) (h3 : inb (x3 + (3 : Int32)) L = true) (h4 : inb (x3 + (4 : Int32)) L = true) (hB : B_row Inv n) (hI : Inv (m + 1) I J) (hk : ∀ I J, Inv m I J → tot (k (x3 + (5 : Int32)) I J) TT) : tot (fL_law_1157 n L xs k x3 I J) TT := by
  unfold fL_law_1157
  simp only [h1, h2, h3, h4, if_true]
  exact both_go (g := fun I J => fL_law_1246 n L xs k x3 I J) (hB _) hI hk
theorem k_copy {Inv : Nat → MI → MJ → Prop} {m n L : Nat} {xs : Nat → Int32} {k : Int32 → MI → MJ → Option Unit} {x3 : Int32} {I : MI} {J : MJ} (h1 : inb (x3 + (1 : Int32)) L = true) (h2 : inb (x3 + (2 : Int32)) L = true) (h3 : inb (x3 + (3 : Int32)) L = true) (h4 : inb (x3 + (4 : Int32)) L = true) (hB : B_copy Inv n) (hI : Inv (m + 1) I J) (hk : ∀ I J, Inv m I J → tot (k (x3 + (5 : Int32)) I J) TT) : tot (fL_law_1180 n L xs k x3 I J) TT := by
  unfold fL_law_1180
  simp only [h1, h2, h3, h4, if_true]
  exact both_go (g := fun I J => fL_law_1246 n L xs k x3 I J) (hB _ _ _) hI hk
theorem k_status {Inv : Nat → MI → MJ → Prop} {m n L : Nat} {xs : Nat → Int32} {k : Int32 → MI → MJ → Option Unit} {x3 : Int32} {I : MI} {J : MJ} (h1 : inb (x3 + (1 : Int32)) L = true) (h2 : inb (x3 + (2 : Int32)) L = true) (h3 : inb (x3 + (3 : Int32)) L = true) (h4 : inb (x3 + (4 : Int32)) L = true) (hB : B_status Inv n) (hI : Inv (m + 1) I J) (hk : ∀ I J, Inv m I J → tot (k (x3 + (5 : Int32)) I J) TT) : tot (fL_law_1223 n L xs k x3 I J) TT := by
  unfold fL_law_1223
  simp only [h1, h2, h3, h4, if_true]
  exact both_go (g := fun I J => fL_law_1246 n L xs k x3 I J) (hB _) hI hk
theorem law_of {Inv : Nat → MI → MJ → Prop} (hdec : ∀ m I J, Inv (m + 1) I J → Inv m I J) {n L : Nat} {xs : Nat → Int32} (hB : AllB Inv n) (hL : L ≤ 2560) : ∀ (q i : Nat) (I : MI) (J : MJ), Inv q I J → i ≤ L → L < i + 5 * q → tot (lL_law_18 n L xs q (nI i) I J) TT := by
  obtain ⟨b0, b1, b2, b3, b4, b5, b6, b7, b8, b9, b10, b11, b12, b13, b14, b15, b16, b17, b18, b19, b20, b21, b22, b23, b24, b25, b26, b27, b28, b29, b30, b31, b32, b33, b34, b35, b36, b37⟩ := hB
  intro q
  induction q with
  | zero => intro i I J _ h1 h2; omega
  | succ q ih =>
    intro i I J hI hi hq
    show tot (fL_law_18 n L xs (lL_law_18 n L xs q) (nI i) I J) TT
    unfold fL_law_18
    have e5 : (Int32.ofNat L - (5 : Int32)).toInt = (L : Int) - 5 := pk_sub_toInt (a := L) (b := 5) (by omega) (by decide)
    by_cases hc : i + 5 ≤ L
    case neg =>
      rw [if_pos (by rw [Int32.lt_iff_toInt_lt, e5, nI_toInt (by omega)]; omega)]
      exact tot_some.mpr trivial
    rw [if_neg (by rw [Int32.lt_iff_toInt_lt, e5, nI_toInt (by omega)]; omega)]
    rw [if_pos (inb_nI (by omega) (by omega))]
    have a1 : nI i + (1 : Int32) = nI (i + 1) := nI_add i 1
    have a2 : nI i + (2 : Int32) = nI (i + 2) := nI_add i 2
    have a3 : nI i + (3 : Int32) = nI (i + 3) := nI_add i 3
    have a4 : nI i + (4 : Int32) = nI (i + 4) := nI_add i 4
    have a5 : nI i + (5 : Int32) = nI (i + 5) := nI_add i 5
    have h1 : inb (nI i + (1 : Int32)) L = true := by rw [a1]; exact inb_nI (by omega) (by omega)
    have h2 : inb (nI i + (2 : Int32)) L = true := by rw [a2]; exact inb_nI (by omega) (by omega)
    have h3 : inb (nI i + (3 : Int32)) L = true := by rw [a3]; exact inb_nI (by omega) (by omega)
    have h4 : inb (nI i + (4 : Int32)) L = true := by rw [a4]; exact inb_nI (by omega) (by omega)
    have hk : ∀ I J, Inv q I J → tot (lL_law_18 n L xs q (nI i + (5 : Int32)) I J) TT := by
      intro I J hI
      rw [a5]
      exact ih (i + 5) I J hI hc (by omega)
    generalize lL_law_18 n L xs q = k at hk
    rw [tot_lt]
    generalize xs (nI i).toNatClampNeg &&& (63 : Int32) = v
    by_cases w0 : v = (0 : Int32)
    · rw [if_pos w0]; exact k_input h1 h2 h3 h4 b0 hI hk
    rw [if_neg w0]
    by_cases w1 : v = (1 : Int32)
    · rw [if_pos w1]; exact k_keeper h1 h2 h3 h4 b1 hI hk
    rw [if_neg w1]
    by_cases w2 : v = (2 : Int32)
    · rw [if_pos w2]; exact k_gate h1 h2 h3 h4 b2 hI hk
    rw [if_neg w2]
    by_cases w3 : v = (3 : Int32)
    · rw [if_pos w3]; exact k_source h1 h2 h3 h4 b3 hI hk
    rw [if_neg w3]
    by_cases w4 : v = (4 : Int32)
    · rw [if_pos w4]; exact k_out h1 h2 h3 h4 b4 hI hk
    rw [if_neg w4]
    by_cases w5 : v = (5 : Int32)
    · rw [if_pos w5]; exact k_cell h1 h2 h3 h4 b5 hI hk
    rw [if_neg w5]
    by_cases w6 : v = (6 : Int32)
    · rw [if_pos w6]; exact k_cuts h1 h2 h3 h4 b6 hI hk
    rw [if_neg w6]
    by_cases w7 : v = (7 : Int32)
    · rw [if_pos w7]; exact k_cut h1 h2 h3 h4 b7 hI hk
    rw [if_neg w7]
    by_cases w8 : v = (8 : Int32)
    · rw [if_pos w8]; exact k_depth h1 h2 h3 h4 b8 hI hk
    rw [if_neg w8]
    by_cases w9 : v = (9 : Int32)
    · rw [if_pos w9]; exact k_tables h1 h2 h3 h4 b9 hI hk
    rw [if_neg w9]
    by_cases w10 : v = (10 : Int32)
    · rw [if_pos w10]; exact k_table h1 h2 h3 h4 b10 hI hk
    rw [if_neg w10]
    by_cases w11 : v = (11 : Int32)
    · rw [if_pos w11]; exact k_cloth h1 h2 h3 h4 b11 hI hk
    rw [if_neg w11]
    by_cases w12 : v = (12 : Int32)
    · rw [if_pos w12]; exact k_broken h1 h2 h3 h4 b12 hI hk
    rw [if_neg w12]
    by_cases w13 : v = (13 : Int32)
    · rw [if_pos w13]; exact k_set h1 h2 h3 h4 b13 hI hk
    rw [if_neg w13]
    by_cases w14 : v = (14 : Int32)
    · rw [if_pos w14]; exact k_tile h1 h2 h3 h4 b14 hI hk
    rw [if_neg w14]
    by_cases w15 : v = (15 : Int32)
    · rw [if_pos w15]; exact k_move h1 h2 h3 h4 b15 hI hk
    rw [if_neg w15]
    by_cases w16 : v = (16 : Int32)
    · rw [if_pos w16]; exact k_swap h1 h2 h3 h4 b16 hI hk
    rw [if_neg w16]
    by_cases w17 : v = (17 : Int32)
    · rw [if_pos w17]; exact k_smooth h1 h2 h3 h4 b17 hI hk
    rw [if_neg w17]
    by_cases w18 : v = (18 : Int32)
    · rw [if_pos w18]; exact k_cost h1 h2 h3 h4 b18 hI hk
    rw [if_neg w18]
    by_cases w19 : v = (19 : Int32)
    · rw [if_pos w19]; exact k_wires h1 h2 h3 h4 b19 hI hk
    rw [if_neg w19]
    by_cases w20 : v = (20 : Int32)
    · rw [if_pos w20]; exact k_lead h1 h2 h3 h4 b20 hI hk
    rw [if_neg w20]
    by_cases w21 : v = (21 : Int32)
    · rw [if_pos w21]; exact k_joint h1 h2 h3 h4 b21 hI hk
    rw [if_neg w21]
    by_cases w22 : v = (22 : Int32)
    · rw [if_pos w22]; exact k_way h1 h2 h3 h4 b22 hI hk
    rw [if_neg w22]
    by_cases w23 : v = (23 : Int32)
    · rw [if_pos w23]; exact k_side h1 h2 h3 h4 b23 hI hk
    rw [if_neg w23]
    by_cases w24 : v = (24 : Int32)
    · rw [if_pos w24]; exact k_longest h1 h2 h3 h4 b24 hI hk
    rw [if_neg w24]
    by_cases w25 : v = (25 : Int32)
    · rw [if_pos w25]; exact k_frames h1 h2 h3 h4 b25 hI hk
    rw [if_neg w25]
    by_cases w26 : v = (26 : Int32)
    · rw [if_pos w26]; exact k_octet h1 h2 h3 h4 b26 hI hk
    rw [if_neg w26]
    by_cases w27 : v = (27 : Int32)
    · rw [if_pos w27]; exact k_bend h1 h2 h3 h4 b27 hI hk
    rw [if_neg w27]
    by_cases w28 : v = (28 : Int32)
    · rw [if_pos w28]; exact k_check h1 h2 h3 h4 b28 hI hk
    rw [if_neg w28]
    by_cases w29 : v = (29 : Int32)
    · rw [if_pos w29]; exact k_back h1 h2 h3 h4 b29 hI hk
    rw [if_neg w29]
    by_cases w30 : v = (30 : Int32)
    · rw [if_pos w30]; exact k_start h1 h2 h3 h4 b30 hI hk
    rw [if_neg w30]
    by_cases w31 : v = (31 : Int32)
    · rw [if_pos w31]; exact k_clock h1 h2 h3 h4 b31 hI hk
    rw [if_neg w31]
    by_cases w32 : v = (32 : Int32)
    · rw [if_pos w32]; exact k_told h1 h2 h3 h4 b32 hI hk
    rw [if_neg w32]
    by_cases w33 : v = (33 : Int32)
    · rw [if_pos w33]; exact k_lay h1 h2 h3 h4 b33 hI hk
    rw [if_neg w33]
    by_cases w34 : v = (34 : Int32)
    · rw [if_pos w34]; exact k_tear h1 h2 h3 h4 b34 hI hk
    rw [if_neg w34]
    by_cases w35 : v = (35 : Int32)
    · rw [if_pos w35]; exact k_row h1 h2 h3 h4 b35 hI hk
    rw [if_neg w35]
    by_cases w36 : v = (36 : Int32)
    · rw [if_pos w36]; exact k_copy h1 h2 h3 h4 b36 hI hk
    rw [if_neg w36]
    by_cases w37 : v = (37 : Int32)
    · rw [if_pos w37]; exact k_status h1 h2 h3 h4 b37 hI hk
    rw [if_neg w37]
    exact hk I J (hdec q I J hI)
/-- the claim's pure half: a relation that holds at the start and that every call keeps -/
theorem law_true_of {Inv : Nat → MI → MJ → Prop} (hdec : ∀ m I J, Inv (m + 1) I J → Inv m I J) (n : Nat) (hn : n = 2500) (r : M2) (h0 : fX9_init n = some r) (hI : Inv 2500 (finM r.1) r.2) (hB : AllB Inv n) (L : Nat) (xs : Nat → Int32) (hL : L ≤ 2560) : ∃ (n : Nat) (r : M2), fX9_init n = some r ∧ lL_law_18 n L xs n (0 : Int32) (finM r.1) r.2 = some () := by
  have hI : Inv n (finM r.1) r.2 := by subst hn; exact hI
  obtain ⟨u, h1, -⟩ := law_of hdec (xs := xs) hB hL n 0 (finM r.1) r.2 hI (Nat.zero_le _) (by omega)
  exact ⟨n, r, h0, h1⟩
