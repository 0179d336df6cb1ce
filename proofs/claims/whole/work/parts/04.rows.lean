/-! the rows of the world: fields, arrays, returns, calls -/
section RWS
variable {p : Program} {l : Launch} {e : Env} {R : Room} {s : State} {m : MethodId} {args : Array Value} {below : List Frame} {meth : Method} {c : Code} {H : Heap} {locs : List Loc} {cells slots : Nat} {Q : State → Prop} {pc : Nat} {ls : Array Slot} {rest : List Value} {bs : Nat} {D : va_G} {y : Y3} {I : MI} {J : MJ} {cc : ByteArray}
theorem if_t {β : Type} {q : Prop} [Decidable q] {a b : Option β} {r : β} (hc : q) (h : (if q then a else b) = some r) : a = some r := by rw [if_pos hc] at h; exact h
theorem if_f {β : Type} {q : Prop} [Decidable q] {a b : Option β} {r : β} (hc : ¬ q) (h : (if q then a else b) = some r) : b = some r := by rw [if_neg hc] at h; exact h
def nz (v : Int32) : Bool := decide (¬ v = 0)
def nzL (v : Int64) : Bool := decide (¬ v = 0)
theorem sw_ne {x : Int32} {k : Int32} (h : ¬ x = k) : x.toInt ≠ k.toInt := fun e => h (Int32.toInt_inj.mp e)
theorem top_i {x z : Int32} (h : z = x) (k : W p l e R s m args below meth c H locs cells slots Q (F0 m pc ls (.int z :: rest))) : W p l e R s m args below meth c H locs cells slots Q (F0 m pc ls (.int x :: rest)) := h ▸ k
theorem top_j {x z : Int64} (h : z = x) (k : W p l e R s m args below meth c H locs cells slots Q (F0 m pc ls (.long z :: rest))) : W p l e R s m args below meth c H locs cells slots Q (F0 m pc ls (.long x :: rest)) := h ▸ k
theorem g_I {cb : Nat} {own C : String} {T : u_T} {N ci index : Nat} (k j : Nat) (hx : p.tables.exec = Jvm.exec) (hb : c.code = cc) (hts : ∀ w ∈ gtb, w.before args s = true) (hown : s.vm.findClass own = some m.cls) (hK : va_K D vwCl (tyl y) s) (hP : va_P D vwCl (wl bs y I J) H) (hin : ∀ w ∈ u_ws C T N, w ∈ gtb) (hc : vwCl[ci]? = some (C, T, N)) (hcb : cb ≤ y.2.2.2) (ok : okF k ci j N 0 cb = true) (hl : Cond.fieldLink own index (T j).1 (T j).2.1 (T j).2.2.1 ∈ gtb) (hdg : decode cc pc = .ok (.getfield index, 3))
    (kk : W p l e R s m args below meth c H locs cells slots Q (F0 m (pc + 3) ls (.int (I k j) :: rest))) : W p l e R s m args below meth c H locs cells slots Q (F0 m pc ls (.ref (bs + k) :: rest)) := by
  obtain ⟨h1, h2, h3, h4, h5⟩ := okF_s ok
  exact va_get (D := D) (ci := ci) (v := .int (I k j)) (C := C) (T := T) (N := N) hx hb hts hin hown hK hP k (wl_obj (Nat.lt_of_lt_of_le h2 hcb) h1) hc j h3 (hts _ hl) (fun _ h => h) (by rw [fsl_at (by rw [h4]; exact h3), h5]; rfl) hdg kk
theorem g_J {cb : Nat} {own C : String} {T : u_T} {N ci index : Nat} (k j : Nat) (hx : p.tables.exec = Jvm.exec) (hb : c.code = cc) (hts : ∀ w ∈ gtb, w.before args s = true) (hown : s.vm.findClass own = some m.cls) (hK : va_K D vwCl (tyl y) s) (hP : va_P D vwCl (wl bs y I J) H) (hin : ∀ w ∈ u_ws C T N, w ∈ gtb) (hc : vwCl[ci]? = some (C, T, N)) (hcb : cb ≤ y.2.2.2) (ok : okF k ci j N 1 cb = true) (hl : Cond.fieldLink own index (T j).1 (T j).2.1 (T j).2.2.1 ∈ gtb) (hdg : decode cc pc = .ok (.getfield index, 3))
    (kk : W p l e R s m args below meth c H locs cells slots Q (F0 m (pc + 3) ls (.long (J k j) :: rest))) : W p l e R s m args below meth c H locs cells slots Q (F0 m pc ls (.ref (bs + k) :: rest)) := by
  obtain ⟨h1, h2, h3, h4, h5⟩ := okF_s ok
  exact va_get (D := D) (ci := ci) (v := .long (J k j)) (C := C) (T := T) (N := N) hx hb hts hin hown hK hP k (wl_obj (Nat.lt_of_lt_of_le h2 hcb) h1) hc j h3 (hts _ hl) (fun _ h => h) (by rw [fsl_at (by rw [h4]; exact h3), h5]; rfl) hdg kk
theorem g_R {cb : Nat} {own C : String} {T : u_T} {N ci index : Nat} (k j q : Nat) (hx : p.tables.exec = Jvm.exec) (hb : c.code = cc) (hts : ∀ w ∈ gtb, w.before args s = true) (hown : s.vm.findClass own = some m.cls) (hK : va_K D vwCl (tyl y) s) (hP : va_P D vwCl (wl bs y I J) H) (hin : ∀ w ∈ u_ws C T N, w ∈ gtb) (hc : vwCl[ci]? = some (C, T, N)) (hcb : cb ≤ y.2.2.2) (ok : okF k ci j N 2 cb = true) (hq : rfc k j = q) (hl : Cond.fieldLink own index (T j).1 (T j).2.1 (T j).2.2.1 ∈ gtb) (hdg : decode cc pc = .ok (.getfield index, 3))
    (kk : W p l e R s m args below meth c H locs cells slots Q (F0 m (pc + 3) ls (.ref (bs + q) :: rest))) : W p l e R s m args below meth c H locs cells slots Q (F0 m pc ls (.ref (bs + k) :: rest)) := by
  obtain ⟨h1, h2, h3, h4, h5⟩ := okF_s ok
  exact va_get (D := D) (ci := ci) (v := .ref (bs + q)) (C := C) (T := T) (N := N) hx hb hts hin hown hK hP k (wl_obj (Nat.lt_of_lt_of_le h2 hcb) h1) hc j h3 (hts _ hl) (fun _ h => h) (by rw [fsl_at (by rw [h4]; exact h3), h5, ← hq]; rfl) hdg kk
theorem s_I {cb : Nat} {I' : MI} {own C : String} {T : u_T} {N ci index : Nat} {ty : FieldType} {v : Int32} (k j : Nat) (eI : I' = upM I k j v) (ty0 : Nat → FieldType) (hx : p.tables.exec = Jvm.exec) (hb : c.code = cc) (hts : ∀ w ∈ gtb, w.before args s = true) (hown : s.vm.findClass own = some m.cls) (hK : va_K D vwCl (tyl y) s) (hP : va_P D vwCl (wl bs y I J) H) (hS : va_S (FA bs) s.heap H locs) (hin : ∀ w ∈ u_ws C T N, w ∈ gtb) (hty : ∀ k, k < N → parseFieldDescriptor (T k).2.2.1 = some (ty0 k)) (hnm : ∀ a, a < N → ∀ b, b < N → a ≠ b → (T a).2.1 ≠ (T b).2.1) (hc : vwCl[ci]? = some (C, T, N)) (hcb : cb ≤ y.2.2.2) (ok : okF k ci j N 0 cb = true) (hl : Cond.fieldLink own index (T j).1 (T j).2.1 (T j).2.2.1 ∈ gtb) (hfin : (T j).2.2.2 = false) (hd : parseFieldDescriptor (T j).2.2.1 = some ty) (hn : narrow ty (.int v) = .int v) (hfit : fits ty (.int v) = true) (hdg : decode cc pc = .ok (.putfield index, 3))
    (kk : ∀ (H1 : Heap) (locs1 : List Loc), va_P D vwCl (wl bs y I' J) H1 → va_S (FA bs) s.heap H1 locs1 → W p l e R s m args below meth c H1 locs1 cells slots Q (F0 m (pc + 3) ls rest)) : W p l e R s m args below meth c H locs cells slots Q (F0 m pc ls (.int v :: .ref (bs + k) :: rest)) := by
  subst eI
  obtain ⟨h1, h2, h3, h4, h5⟩ := okF_s ok
  have he : (wl bs y I J).set k (bs + k, .inr (ci, (fsl bs I J k ci).set j (.int v))) = wl bs y (upM I k j v) J := by
    rw [fsl_setI h5, ← wl_upd (I := I) (I' := upM I k j v) (J := J) (J' := J) (k := k) (fun a h => upM_ne a h) (fun _ _ => rfl)]
    simp only [cE, h1]
  refine va_put (D := D) (ci := ci) (v := .int v) (ty := ty) (C := C) (T := T) (N := N) hx hb hts hin ty0 hty hnm hown hK hP wl_D hS k (wl_obj (Nat.lt_of_lt_of_le h2 hcb) h1) hc j h3 (hts _ hl) (fun _ h => h) hfin hd hn hfit (by rw [fsl_len, h4]; exact h3) hdg (fun H1 locs1 hP1 _ hS1 => ?_)
  rw [he] at hP1
  exact kk H1 locs1 hP1 hS1
theorem s_J {cb : Nat} {J' : MJ} {own C : String} {T : u_T} {N ci index : Nat} {v : Int64} (k j : Nat) (eJ : J' = upN J k j v) (ty0 : Nat → FieldType) (hx : p.tables.exec = Jvm.exec) (hb : c.code = cc) (hts : ∀ w ∈ gtb, w.before args s = true) (hown : s.vm.findClass own = some m.cls) (hK : va_K D vwCl (tyl y) s) (hP : va_P D vwCl (wl bs y I J) H) (hS : va_S (FA bs) s.heap H locs) (hin : ∀ w ∈ u_ws C T N, w ∈ gtb) (hty : ∀ k, k < N → parseFieldDescriptor (T k).2.2.1 = some (ty0 k)) (hnm : ∀ a, a < N → ∀ b, b < N → a ≠ b → (T a).2.1 ≠ (T b).2.1) (hc : vwCl[ci]? = some (C, T, N)) (hcb : cb ≤ y.2.2.2) (ok : okF k ci j N 1 cb = true) (hl : Cond.fieldLink own index (T j).1 (T j).2.1 (T j).2.2.1 ∈ gtb) (hfin : (T j).2.2.2 = false) (hd : parseFieldDescriptor (T j).2.2.1 = some .long) (hdg : decode cc pc = .ok (.putfield index, 3))
    (kk : ∀ (H1 : Heap) (locs1 : List Loc), va_P D vwCl (wl bs y I J') H1 → va_S (FA bs) s.heap H1 locs1 → W p l e R s m args below meth c H1 locs1 cells slots Q (F0 m (pc + 3) ls rest)) : W p l e R s m args below meth c H locs cells slots Q (F0 m pc ls (.long v :: .ref (bs + k) :: rest)) := by
  subst eJ
  obtain ⟨h1, h2, h3, h4, h5⟩ := okF_s ok
  have he : (wl bs y I J).set k (bs + k, .inr (ci, (fsl bs I J k ci).set j (.long v))) = wl bs y I (upN J k j v) := by
    rw [fsl_setJ h5, ← wl_upd (I := I) (I' := I) (J := J) (J' := upN J k j v) (k := k) (fun _ _ => rfl) (fun a h => upN_ne a h)]
    simp only [cE, h1]
  refine va_put (D := D) (ci := ci) (v := .long v) (ty := .long) (C := C) (T := T) (N := N) hx hb hts hin ty0 hty hnm hown hK hP wl_D hS k (wl_obj (Nat.lt_of_lt_of_le h2 hcb) h1) hc j h3 (hts _ hl) (fun _ h => h) hfin hd rfl rfl (by rw [fsl_len, h4]; exact h3) hdg (fun H1 locs1 hP1 _ hS1 => ?_)
  rw [he] at hP1
  exact kk H1 locs1 hP1 hS1
theorem a_I {cb : Nat} {n : Nat} {i : Int32} (k : Nat) (hx : p.tables.exec = Jvm.exec) (hb : c.code = cc) (hK : va_K D vwCl (tyl y) s) (hP : va_P D vwCl (wl bs y I J) H) (hcb : cb ≤ y.2.2.2) (hn : alb cb k = n) (hi : inb i n = true) (hdg : decode cc pc = .ok (.iaload, 1))
    (kk : W p l e R s m args below meth c H locs cells slots Q (F0 m (pc + 1) ls (.int (I k i.toNatClampNeg) :: rest))) : W p l e R s m args below meth c H locs cells slots Q (F0 m pc ls (.int i :: .ref (bs + k) :: rest)) :=
  va_iald hx hb hK hP k 0 (wl_arrI (Nat.lt_of_lt_of_le (alb_s hn (inb_ne hi)).1 hcb) (alb_s hn (inb_ne hi)).2) rfl (inb_in hi) hdg kk
theorem a_J {cb : Nat} {n : Nat} {i : Int32} (k : Nat) (hx : p.tables.exec = Jvm.exec) (hb : c.code = cc) (hK : va_K D vwCl (tyl y) s) (hP : va_P D vwCl (wl bs y I J) H) (hcb : cb ≤ y.2.2.2) (hn : albJ cb k = n) (hi : inb i n = true) (hdg : decode cc pc = .ok (.laload, 1))
    (kk : W p l e R s m args below meth c H locs cells slots Q (F0 m (pc + 1) ls (.long (J k i.toNatClampNeg) :: rest))) : W p l e R s m args below meth c H locs cells slots Q (F0 m pc ls (.int i :: .ref (bs + k) :: rest)) :=
  va_lald hx hb hK hP k 1 (wl_arrJ (Nat.lt_of_lt_of_le (albJ_s hn (inb_ne hi)).1 hcb) (albJ_s hn (inb_ne hi)).2) rfl (inb_in hi) hdg kk
theorem a_Z {cb : Nat} {n : Nat} {i : Int32} (k : Nat) (hx : p.tables.exec = Jvm.exec) (hb : c.code = cc) (hK : va_K D vwCl (tyl y) s) (hP : va_P D vwCl (wl bs y I J) H) (hcb : cb ≤ y.2.2.2) (hn : albZ cb k = n) (hi : inb i n = true) (hdg : decode cc pc = .ok (.baload, 1))
    (kk : W p l e R s m args below meth c H locs cells slots Q (F0 m (pc + 1) ls (.int (I k i.toNatClampNeg) :: rest))) : W p l e R s m args below meth c H locs cells slots Q (F0 m pc ls (.int i :: .ref (bs + k) :: rest)) :=
  va_zald hx hb hK hP k 2 (wl_arrZ (Nat.lt_of_lt_of_le (albZ_s hn (inb_ne hi)).1 hcb) (albZ_s hn (inb_ne hi)).2) rfl (inb_in hi) hdg kk
theorem a_len {cb : Nat} {n : Nat} {v : Int32} (k : Nat) (hx : p.tables.exec = Jvm.exec) (hb : c.code = cc) (hK : va_K D vwCl (tyl y) s) (hP : va_P D vwCl (wl bs y I J) H) (hcb : cb ≤ y.2.2.2) (hn : alb cb k = n) (h0 : n ≠ 0) (hv : Int32.ofNat n = v) (hdg : decode cc pc = .ok (.arraylength, 1))
    (kk : W p l e R s m args below meth c H locs cells slots Q (F0 m (pc + 1) ls (.int v :: rest))) : W p l e R s m args below meth c H locs cells slots Q (F0 m pc ls (.ref (bs + k) :: rest)) :=
  va_alen hx hb hK hP k 0 (wl_arrI (Nat.lt_of_lt_of_le (alb_s hn h0).1 hcb) (alb_s hn h0).2) (ty := .int) rfl hv hdg kk
theorem a_lenJ {cb : Nat} {n : Nat} {v : Int32} (k : Nat) (hx : p.tables.exec = Jvm.exec) (hb : c.code = cc) (hK : va_K D vwCl (tyl y) s) (hP : va_P D vwCl (wl bs y I J) H) (hcb : cb ≤ y.2.2.2) (hn : albJ cb k = n) (h0 : n ≠ 0) (hv : Int32.ofNat n = v) (hdg : decode cc pc = .ok (.arraylength, 1))
    (kk : W p l e R s m args below meth c H locs cells slots Q (F0 m (pc + 1) ls (.int v :: rest))) : W p l e R s m args below meth c H locs cells slots Q (F0 m pc ls (.ref (bs + k) :: rest)) :=
  va_alen hx hb hK hP k 1 (wl_arrJ (Nat.lt_of_lt_of_le (albJ_s hn h0).1 hcb) (albJ_s hn h0).2) (ty := .long) rfl hv hdg kk
theorem t_I {cb : Nat} {I' : MI} {n : Nat} {i x : Int32} (k : Nat) (eI : I' = upM I k i.toNatClampNeg x) (hx : p.tables.exec = Jvm.exec) (hb : c.code = cc) (hK : va_K D vwCl (tyl y) s) (hP : va_P D vwCl (wl bs y I J) H) (hS : va_S (FA bs) s.heap H locs) (hcb : cb ≤ y.2.2.2) (hn : alb cb k = n) (hi : inb i n = true) (hdg : decode cc pc = .ok (.iastore, 1))
    (kk : ∀ (H1 : Heap) (locs1 : List Loc), va_P D vwCl (wl bs y I' J) H1 → va_S (FA bs) s.heap H1 locs1 → W p l e R s m args below meth c H1 locs1 cells slots Q (F0 m (pc + 1) ls rest)) : W p l e R s m args below meth c H locs cells slots Q (F0 m pc ls (.int x :: .int i :: .ref (bs + k) :: rest)) := by
  subst eI
  obtain ⟨h0, h1⟩ := alb_s hn (inb_ne hi)
  have he : (wl bs y I J).set k (bs + k, .inl (y.1, n, .inl (upd (I k) i.toNatClampNeg x))) = wl bs y (upM I k i.toNatClampNeg x) J := by
    rw [← wl_upd (I := I) (I' := upM I k i.toNatClampNeg x) (J := J) (J' := J) (k := k) (fun a h => upM_ne a h) (fun _ _ => rfl)]
    simp only [cE, h1, upM_eq]
  refine va_iast hx hb hK hP wl_D hS k 0 (wl_arrI (Nat.lt_of_lt_of_le h0 hcb) h1) rfl (inb_in hi) hdg (fun H1 locs1 hP1 _ hS1 => ?_)
  rw [he] at hP1
  exact kk H1 locs1 hP1 hS1
theorem t_J {cb : Nat} {J' : MJ} {n : Nat} {i : Int32} {x : Int64} (k : Nat) (eJ : J' = upN J k i.toNatClampNeg x) (hx : p.tables.exec = Jvm.exec) (hb : c.code = cc) (hK : va_K D vwCl (tyl y) s) (hP : va_P D vwCl (wl bs y I J) H) (hS : va_S (FA bs) s.heap H locs) (hcb : cb ≤ y.2.2.2) (hn : albJ cb k = n) (hi : inb i n = true) (hdg : decode cc pc = .ok (.lastore, 1))
    (kk : ∀ (H1 : Heap) (locs1 : List Loc), va_P D vwCl (wl bs y I J') H1 → va_S (FA bs) s.heap H1 locs1 → W p l e R s m args below meth c H1 locs1 cells slots Q (F0 m (pc + 1) ls rest)) : W p l e R s m args below meth c H locs cells slots Q (F0 m pc ls (.long x :: .int i :: .ref (bs + k) :: rest)) := by
  subst eJ
  obtain ⟨h0, h1⟩ := albJ_s hn (inb_ne hi)
  have he : (wl bs y I J).set k (bs + k, .inl (y.2.1, n, .inr (.inl (vp_updL (J k) i.toNatClampNeg x)))) = wl bs y I (upN J k i.toNatClampNeg x) := by
    rw [← wl_upd (I := I) (I' := I) (J := J) (J' := upN J k i.toNatClampNeg x) (k := k) (fun _ _ => rfl) (fun a h => upN_ne a h)]
    simp only [cE, h1, upN_eq]
  refine va_last hx hb hK hP wl_D hS k 1 (wl_arrJ (Nat.lt_of_lt_of_le h0 hcb) h1) rfl (inb_in hi) hdg (fun H1 locs1 hP1 _ hS1 => ?_)
  rw [he] at hP1
  exact kk H1 locs1 hP1 hS1
theorem t_Z {cb : Nat} {I' : MI} {n : Nat} {i x : Int32} (k : Nat) (eI : I' = upM I k i.toNatClampNeg (bz x)) (hx : p.tables.exec = Jvm.exec) (hb : c.code = cc) (hK : va_K D vwCl (tyl y) s) (hP : va_P D vwCl (wl bs y I J) H) (hS : va_S (FA bs) s.heap H locs) (hcb : cb ≤ y.2.2.2) (hn : albZ cb k = n) (hi : inb i n = true) (hdg : decode cc pc = .ok (.bastore, 1))
    (kk : ∀ (H1 : Heap) (locs1 : List Loc), va_P D vwCl (wl bs y I' J) H1 → va_S (FA bs) s.heap H1 locs1 → W p l e R s m args below meth c H1 locs1 cells slots Q (F0 m (pc + 1) ls rest)) : W p l e R s m args below meth c H locs cells slots Q (F0 m pc ls (.int x :: .int i :: .ref (bs + k) :: rest)) := by
  subst eI
  obtain ⟨h0, h1⟩ := albZ_s hn (inb_ne hi)
  have he : (wl bs y I J).set k (bs + k, .inl (y.2.2.1, n, .inl (upd (I k) i.toNatClampNeg (vp_nar .boolean x)))) = wl bs y (upM I k i.toNatClampNeg (bz x)) J := by
    rw [← wl_upd (I := I) (I' := upM I k i.toNatClampNeg (bz x)) (J := J) (J' := J) (k := k) (fun a h => upM_ne a h) (fun _ _ => rfl)]
    simp only [cE, h1, upM_eq]
    rfl
  refine va_zast hx hb hK hP wl_D hS k 2 (wl_arrZ (Nat.lt_of_lt_of_le h0 hcb) h1) rfl (inb_in hi) hdg (fun H1 locs1 hP1 _ hS1 => ?_)
  rw [he] at hP1
  exact kk H1 locs1 hP1 hS1
theorem cp_I {cb : Nat} {I' : MI} {own : String} {index n0 n1 : Nat} {sp dp n : Int32} (a b : Nat) (eI : I' = cpI I a b sp.toNatClampNeg dp.toNatClampNeg n.toNatClampNeg) (hx : p.tables.exec = Jvm.exec) (hb : c.code = cc) (hml : c.maxLocals = ls.size) (hown : s.vm.findClass own = some m.cls) (hts : ∀ w ∈ gtb, w.before args s = true) (hl : Cond.methodLink own index arraycopyName ∈ gtb) (w3 : Cond.native arraycopyName ∈ gtb ∧ Cond.static arraycopyName ∈ gtb ∧ Cond.initialized "java/lang/System" ∈ gtb) (hK : va_K D vwCl (tyl y) s) (hP : va_P D vwCl (wl bs y I J) H) (hS : va_S (FA bs) s.heap H locs) (hcb : cb ≤ y.2.2.2) (ha : alb cb a = n0) (hb1 : alb cb b = n1) (hi : okcp sp dp n n0 n1 = true) (hframes : 1 ≤ R.frames) (hlocals : (rest.map fun v => v.category).sum + (nativeFrameWords "java/lang/System" "arraycopy" 5 + 11) ≤ R.locals) (hdg : decode cc pc = .ok (.invokestatic index, 3))
    (kk : ∀ (H1 : Heap) (locs1 : List Loc), va_P D vwCl (wl bs y I' J) H1 → va_S (FA bs) s.heap H1 locs1 → W p l e R s m args below meth c H1 locs1 cells slots Q (F0 m (pc + 3) ls rest)) : W p l e R s m args below meth c H locs cells slots Q (F0 m pc ls (.int n :: .int dp :: .ref (bs + b) :: .int sp :: .ref (bs + a) :: rest)) := by
  subst eI
  have hi1 : (¬ sp < 0 ∧ ¬ dp < 0 ∧ ¬ n < 0 ∧ sp.toNatClampNeg + n.toNatClampNeg ≤ n0 ∧ dp.toNatClampNeg + n.toNatClampNeg ≤ n1) ∧ n0 ≠ 0 ∧ n1 ≠ 0 := of_decide_eq_true hi
  obtain ⟨⟨q1, q2, q3, q4, q5⟩, q6, q7⟩ := hi1
  obtain ⟨u0, k0⟩ := alb_s ha q6
  obtain ⟨u1, k1⟩ := alb_s hb1 q7
  have he : (wl bs y I J).set b (bs + b, .inl (y.1, n1, .inl (va_cpy (I a) (I b) sp.toNatClampNeg dp.toNatClampNeg n.toNatClampNeg))) = wl bs y (cpI I a b sp.toNatClampNeg dp.toNatClampNeg n.toNatClampNeg) J := by
    rw [← wl_upd (I := I) (I' := cpI I a b sp.toNatClampNeg dp.toNatClampNeg n.toNatClampNeg) (J := J) (J' := J) (k := b) (fun q h => if_neg h) (fun _ _ => rfl)]
    simp only [cE, k1]
    rw [show cpI I a b sp.toNatClampNeg dp.toNatClampNeg n.toNatClampNeg b = va_cpy (I a) (I b) sp.toNatClampNeg dp.toNatClampNeg n.toNatClampNeg from if_pos rfl]
  refine va_copyi (ty := .int) hx hb hml hown (hts _ hl) (hts _ w3.1) (hts _ w3.2.1) (hts _ w3.2.2) hK hP wl_D hS a b 0 0 (wl_arrI (Nat.lt_of_lt_of_le u0 hcb) k0) (wl_arrI (Nat.lt_of_lt_of_le u1 hcb) k1) rfl rfl rfl q1 q2 q3 q4 q5 (fun i _ => rfl) hframes hlocals hdg (fun H1 locs1 hP1 _ hS1 => ?_)
  rw [he] at hP1
  exact kk H1 locs1 hP1 hS1
theorem r_I {r : Int32 × M2} {x : Int32} (hx : p.tables.exec = Jvm.exec) (hb : c.code = cc) (hr : meth.sig.returnType = some .int) (hlocks : meth.locks = false) (hP : va_P D vwCl (wl bs y I J) H) (hK : va_K D vwCl (tyl y) s) (hN : HN s) (hL : LB bs s s.heap) (hS : va_S (FA bs) s.heap H locs) (h : some (x, I, J) = some r) (hdg : decode cc pc = .ok (.ireturn, 1)) : W p l e R s m args below meth c H locs 0 0 (QI below args s bs D y r) (F0 m pc ls [.int x]) := by
  cases h
  exact W.iret (v := x) hx hb hr (fun t ht hW => ⟨⟨x, (), rfl, rfl, HB.at hP hK hN hL hS ht hW⟩, hS.F ht⟩) hS.2.2 hdg
theorem r_Z {r : Int32 × M2} {x : Int32} (hx : p.tables.exec = Jvm.exec) (hb : c.code = cc) (hr : meth.sig.returnType = some .boolean) (hlocks : meth.locks = false) (hP : va_P D vwCl (wl bs y I J) H) (hK : va_K D vwCl (tyl y) s) (hN : HN s) (hL : LB bs s s.heap) (hS : va_S (FA bs) s.heap H locs) (hn : x &&& 1 = x) (h : some (x, I, J) = some r) (hdg : decode cc pc = .ok (.ireturn, 1)) : W p l e R s m args below meth c H locs 0 0 (QI below args s bs D y r) (F0 m pc ls [.int x]) := by
  cases h
  exact W.zret (v := x) (ty := .boolean) hx hb hr (by show Value.int (x &&& 1) = _; rw [hn]) (fun t ht hW => ⟨⟨x, (), rfl, rfl, HB.at hP hK hN hL hS ht hW⟩, hS.F ht⟩) hS.2.2 hdg
theorem r_J {r : Int64 × M2} {x : Int64} (hx : p.tables.exec = Jvm.exec) (hb : c.code = cc) (hr : meth.sig.returnType = some .long) (hlocks : meth.locks = false) (hP : va_P D vwCl (wl bs y I J) H) (hK : va_K D vwCl (tyl y) s) (hN : HN s) (hL : LB bs s s.heap) (hS : va_S (FA bs) s.heap H locs) (h : some (x, I, J) = some r) (hdg : decode cc pc = .ok (.lreturn, 1)) : W p l e R s m args below meth c H locs 0 0 (QJ below args s bs D y r) (F0 m pc ls [.long x]) := by
  cases h
  exact W.lret (v := x) hx hb hr (fun t ht hW => ⟨⟨x, (), rfl, rfl, HB.at hP hK hN hL hS ht hW⟩, hS.F ht⟩) hS.2.2 hdg
theorem r_V {r : M2} (hx : p.tables.exec = Jvm.exec) (hb : c.code = cc) (hr : meth.sig.returnType = none) (hlocks : meth.locks = false) (hP : va_P D vwCl (wl bs y I J) H) (hK : va_K D vwCl (tyl y) s) (hN : HN s) (hL : LB bs s s.heap) (hS : va_S (FA bs) s.heap H locs) (h : some (I, J) = some r) (hdg : decode cc pc = .ok (.return_, 1)) : W p l e R s m args below meth c H locs 0 0 (QV below args s bs D y r) (F0 m pc ls []) := by
  cases h
  exact W.vret hx hb hr (fun t ht hW => ⟨⟨(), rfl, trivial, HB.at hP hK hN hL hS ht hW⟩, hS.F ht⟩) hS.2.2 hdg
end RWS
