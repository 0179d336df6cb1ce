/-! words: the tables' own that are kept through calls -/
def gtb : List Cond := lw_tbl.filter goodWord
theorem gtb_mem {w : Cond} (h : w ∈ lw_tbl) (hg : goodWord w = true) : w ∈ gtb := List.mem_filter.mpr ⟨h, hg⟩
theorem gtb_good {c : Cond} (h : c ∈ gtb) : GoodIn gtb (c :: gtb) := by
  intro w hw
  have h1 : w ∈ gtb := (List.mem_cons.mp hw).elim (fun e => e ▸ h) id
  exact ⟨h1, good_of_word (List.mem_filter.mp h1).2⟩
/-! the world: 76 cells -/

def kdL : List (Nat × Nat) := [(0, 9), (0, 3), (1, 32), (1, 32), (1, 32), (1, 32), (1, 8), (0, 0), (1, 32), (1, 32), (2, 1280), (0, 7), (1, 32), (1, 32), (1, 128), (1, 32), (0, 2), (1, 36), (1, 36), (1, 60), (1, 60), (1, 144), (0, 5), (1, 32), (1, 32), (1, 36), (1, 32), (1, 32), (0, 8), (1, 60), (1, 60), (2, 32), (1, 60), (1, 36), (0, 1), (1, 324), (1, 37), (1, 32), (0, 6), (1, 32), (1, 32), (0, 4), (1, 37), (1, 7), (0, 10), (1, 32), (1, 32), (1, 32), (1, 32), (3, 32), (1, 8), (1, 9), (1, 1280), (1, 32), (1, 32), (3, 32), (1, 128), (1, 32), (1, 32), (3, 32), (3, 36), (1, 32), (3, 1920), (1, 60), (1, 60), (1, 36), (3, 36), (1, 60), (1, 1440), (1, 36), (1, 32), (3, 32), (3, 32), (3, 32), (1, 40), (1, 40)]
def kd (k : Nat) : Nat × Nat := kdL.getD k (9, 0)
def ftL : List (List Nat) := [[2, 2, 2], [0, 0, 2, 2, 2], [0, 0, 0, 2, 2, 2, 2, 2, 0, 1], [2, 2, 2, 2, 2, 0, 0, 0, 0, 0, 0], [0, 0, 2], [0, 0, 2, 2, 2, 2, 2], [0, 0, 0, 0, 2, 2], [0, 0, 2, 2, 2, 2, 0], [0, 2, 2, 2, 2, 2], [2, 2, 2, 2, 2, 2, 2, 2, 2, 2], [2, 2, 2, 2, 2, 2, 0, 0, 0, 0, 2, 0, 0, 0, 0, 0, 2, 2, 2, 2, 2, 2, 2, 2, 0, 0, 0, 0, 2, 2, 2, 2, 2, 2, 2, 2, 2, 2, 2, 2, 2, 2, 0, 0, 0, 0, 2, 2, 0]]
def ftc (ci j : Nat) : Nat := (ftL.getD ci []).getD j 9
def rfL : List (List Nat) := [[1, 7, 11, 16, 22, 28, 34, 38, 41, 43], [2, 3, 4, 5, 6, 0, 0, 0, 0, 0, 0], [], [], [], [], [], [8, 9, 10], [], [], [], [0, 0, 12, 13, 14, 15, 0], [], [], [], [], [0, 0, 0, 17, 18, 19, 20, 21, 0, 0], [], [], [], [], [], [0, 0, 23, 24, 25, 26, 27], [], [], [], [], [], [0, 29, 30, 31, 32, 33], [], [], [], [], [], [0, 0, 35, 36, 37], [], [], [], [0, 0, 0, 0, 39, 40], [], [], [0, 0, 42], [], [], [45, 46, 47, 48, 49, 50, 0, 0, 0, 0, 51, 0, 0, 0, 0, 0, 52, 53, 54, 55, 56, 57, 58, 59, 0, 0, 0, 0, 60, 61, 62, 63, 64, 65, 66, 67, 68, 69, 70, 71, 72, 73, 0, 0, 0, 0, 74, 75, 0], [], [], [], [], [], [], [], [], [], [], [], [], [], [], [], [], [], [], [], [], [], [], [], [], [], [], [], [], [], [], []]
def rfc (k j : Nat) : Nat := (rfL.getD k []).getD j 0
theorem in_X0 : ∀ w ∈ u_ws RX0 TX0 3, w ∈ gtb := by
  have h : ∀ w ∈ u_ws RX0 TX0 3, w ∈ lw_tbl ∧ goodWord w = true := by decide +kernel
  exact fun w hw => gtb_mem (h w hw).1 (h w hw).2
theorem in_X1 : ∀ w ∈ u_ws RX1 TX1 5, w ∈ gtb := by
  have h : ∀ w ∈ u_ws RX1 TX1 5, w ∈ lw_tbl ∧ goodWord w = true := by decide +kernel
  exact fun w hw => gtb_mem (h w hw).1 (h w hw).2
theorem in_X2 : ∀ w ∈ u_ws RX2 TX2 10, w ∈ gtb := by
  have h : ∀ w ∈ u_ws RX2 TX2 10, w ∈ lw_tbl ∧ goodWord w = true := by decide +kernel
  exact fun w hw => gtb_mem (h w hw).1 (h w hw).2
theorem in_X3 : ∀ w ∈ u_ws RX3 TX3 11, w ∈ gtb := by
  have h : ∀ w ∈ u_ws RX3 TX3 11, w ∈ lw_tbl ∧ goodWord w = true := by decide +kernel
  exact fun w hw => gtb_mem (h w hw).1 (h w hw).2
theorem in_X4 : ∀ w ∈ u_ws RX4 TX4 3, w ∈ gtb := by
  have h : ∀ w ∈ u_ws RX4 TX4 3, w ∈ lw_tbl ∧ goodWord w = true := by decide +kernel
  exact fun w hw => gtb_mem (h w hw).1 (h w hw).2
theorem in_X5 : ∀ w ∈ u_ws RX5 TX5 7, w ∈ gtb := by
  have h : ∀ w ∈ u_ws RX5 TX5 7, w ∈ lw_tbl ∧ goodWord w = true := by decide +kernel
  exact fun w hw => gtb_mem (h w hw).1 (h w hw).2
theorem in_X6 : ∀ w ∈ u_ws RX6 TX6 6, w ∈ gtb := by
  have h : ∀ w ∈ u_ws RX6 TX6 6, w ∈ lw_tbl ∧ goodWord w = true := by decide +kernel
  exact fun w hw => gtb_mem (h w hw).1 (h w hw).2
theorem in_X7 : ∀ w ∈ u_ws RX7 TX7 7, w ∈ gtb := by
  have h : ∀ w ∈ u_ws RX7 TX7 7, w ∈ lw_tbl ∧ goodWord w = true := by decide +kernel
  exact fun w hw => gtb_mem (h w hw).1 (h w hw).2
theorem in_X8 : ∀ w ∈ u_ws RX8 TX8 6, w ∈ gtb := by
  have h : ∀ w ∈ u_ws RX8 TX8 6, w ∈ lw_tbl ∧ goodWord w = true := by decide +kernel
  exact fun w hw => gtb_mem (h w hw).1 (h w hw).2
theorem in_X9 : ∀ w ∈ u_ws RX9 TX9 10, w ∈ gtb := by
  have h : ∀ w ∈ u_ws RX9 TX9 10, w ∈ lw_tbl ∧ goodWord w = true := by decide +kernel
  exact fun w hw => gtb_mem (h w hw).1 (h w hw).2
theorem in_X10 : ∀ w ∈ u_ws RX10 TX10 49, w ∈ gtb := by
  have h : ∀ w ∈ u_ws RX10 TX10 49, w ∈ lw_tbl ∧ goodWord w = true := by decide +kernel
  exact fun w hw => gtb_mem (h w hw).1 (h w hw).2
