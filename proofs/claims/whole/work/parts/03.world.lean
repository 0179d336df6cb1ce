/-! the memory of the pure functions, and the cells that hold it -/
abbrev MI : Type := Nat → Nat → Int32
abbrev MJ : Type := Nat → Nat → Int64
abbrev M2 : Type := MI × MJ
def upM (I : MI) (k j : Nat) (v : Int32) : MI := fun a => if a = k then upd (I a) j v else I a
def upN (J : MJ) (k j : Nat) (v : Int64) : MJ := fun a => if a = k then vp_updL (J a) j v else J a
def inb (i : Int32) (n : Nat) : Bool := decide (¬ (i < 0 ∨ n ≤ i.toNatClampNeg))
theorem inb_in {i : Int32} {n : Nat} (h : inb i n = true) : vp_in i n := by
  have h1 : ¬ (i < 0 ∨ n ≤ i.toNatClampNeg) := of_decide_eq_true h
  exact h1
def aln (k : Nat) : Nat := match kd k with
  | (1, n) => n
  | _ => 0
def alJ (k : Nat) : Nat := match kd k with
  | (2, n) => n
  | _ => 0
def alZ (k : Nat) : Nat := match kd k with
  | (3, n) => n
  | _ => 0
def nb (v : Int32) : Bool := decide (v &&& 1 = v)
def bz (v : Int32) : Int32 := v &&& 1
def ushrI (x y : Int32) : Int32 := (x.toUInt32 >>> (y.toUInt32 &&& Int32.toUInt32 31)).toInt32
def ushrL (x : Int64) (y : Int32) : Int64 := (x.toUInt64 >>> (y.toInt64.toUInt64 &&& Int64.toUInt64 63)).toInt64
def shlL (x : Int64) (y : Int32) : Int64 := x <<< (y.toInt64 &&& 63)
def shrL (x : Int64) (y : Int32) : Int64 := x >>> (y.toInt64 &&& 63)
def lt {α β : Type} (x : α) (f : α → Option β) : Option β := f x
theorem lt_s1 {α β : Type} {x : α} {f : α → Option β} {r : β} (h : lt x f = some r) : ∃ y, y = x ∧ f y = some r := ⟨x, rfl, h⟩
theorem if_s1 {β : Type} {b : Bool} {x : Option β} {r : β} (h : (if b = true then x else none) = some r) : b = true ∧ x = some r := by
  by_cases hb : b = true
  · rw [if_pos hb] at h; exact ⟨hb, h⟩
  · rw [if_neg hb] at h; cases h
theorem bd_s1 {α β : Type} {x : Option α} {f : α → Option β} {r : β} (h : x.bind f = some r) : ∃ y, x = some y ∧ f y = some r := by
  cases x with
  | none => cases h
  | some y => exact ⟨y, rfl, h⟩
def itr {α : Type} (z : α) (f : α → α) : Nat → α
  | 0 => z
  | q + 1 => f (itr z f q)
def nn0 (k : Nat) : Bool := decide (k ≠ 0)
def cpI (I : MI) (a b sp dp n : Nat) : MI := fun q => if q = b then va_cpy (I a) (I b) sp dp n else I q
def okcp (sp dp n : Int32) (n0 n1 : Nat) : Bool := decide ((¬ sp < 0 ∧ ¬ dp < 0 ∧ ¬ n < 0 ∧ sp.toNatClampNeg + n.toNatClampNeg ≤ n0 ∧ dp.toNatClampNeg + n.toNatClampNeg ≤ n1) ∧ n0 ≠ 0 ∧ n1 ≠ 0)
def fvl (bs : Nat) (I : MI) (J : MJ) (k j t : Nat) : Value := match t with
  | 0 => .int (I k j)
  | 1 => .long (J k j)
  | _ => .ref (bs + rfc k j)
def fsl (bs : Nat) (I : MI) (J : MJ) (k ci : Nat) : List Value := (List.range (ftL.getD ci []).length).map (fun j => fvl bs I J k j (ftc ci j))
/-- the classes of the int, long and boolean arrays, and how many cells there are -/
abbrev Y3 : Type := ClassId × ClassId × ClassId × Nat
def cE (bs : Nat) (y : Y3) (I : MI) (J : MJ) (k : Nat) : va_E := match kd k with
  | (0, ci) => .inr (ci, fsl bs I J k ci)
  | (1, n) => .inl (y.1, n, .inl (I k))
  | (2, n) => .inl (y.2.1, n, .inr (.inl (J k)))
  | (_, n) => .inl (y.2.2.1, n, .inl (I k))
def wl (bs : Nat) (y : Y3) (I : MI) (J : MJ) : va_W := (List.range y.2.2.2).map (fun k => (bs + k, cE bs y I J k))
def tyl (y : Y3) : List (ClassId × FieldType) := [(y.1, .int), (y.2.1, .long), (y.2.2.1, .boolean)]
theorem fsl_len {bs : Nat} {I : MI} {J : MJ} {k ci : Nat} : (fsl bs I J k ci).length = (ftL.getD ci []).length := by
  rw [fsl, List.length_map, List.length_range]
theorem fsl_at {bs : Nat} {I : MI} {J : MJ} {k ci j : Nat} (h : j < (ftL.getD ci []).length) : (fsl bs I J k ci)[j]? = some (fvl bs I J k j (ftc ci j)) := by
  rw [fsl, List.getElem?_map, List.getElem?_range h]; rfl
theorem wl_at {bs : Nat} {y : Y3} {I : MI} {J : MJ} {k : Nat} (h : k < y.2.2.2) : (wl bs y I J)[k]? = some (bs + k, cE bs y I J k) := by
  simp [wl, h]
theorem wl_len {bs : Nat} {y : Y3} {I : MI} {J : MJ} : (wl bs y I J).length = y.2.2.2 := by simp [wl]
theorem wl_D {bs : Nat} {y : Y3} {I : MI} {J : MJ} : va_D (fun q => bs ≤ q) (wl bs y I J) := by
  have key : ∀ (i : Nat) (q : Nat × va_E), (wl bs y I J)[i]? = some q → q.1 = bs + i := by
    intro i q h
    by_cases hi : i < y.2.2.2
    · rw [wl_at hi] at h; cases h; rfl
    · rw [List.getElem?_eq_none (by rw [wl_len]; omega)] at h; cases h
  refine ⟨fun i j p q hp hq e => ?_, fun k q hq => ?_⟩
  · have h1 := key i p hp
    have h2 := key j q hq
    omega
  · have h1 := key k q hq
    show bs ≤ q.1
    omega
theorem cE_congr {bs : Nat} {y : Y3} {I I' : MI} {J J' : MJ} {k : Nat} (hI : I' k = I k) (hJ : J' k = J k) : cE bs y I' J' k = cE bs y I J k := by
  have hf : ∀ ci, fsl bs I' J' k ci = fsl bs I J k ci := by
    intro ci
    unfold fsl
    apply List.map_congr_left
    intro j _
    unfold fvl
    rw [hI, hJ]
  unfold cE
  split
  · rw [hf]
  · rw [hI]
  · rw [hJ]
  · rw [hI]
theorem wl_upd {bs : Nat} {y : Y3} {I I' : MI} {J J' : MJ} {k : Nat} (hI : ∀ a, a ≠ k → I' a = I a) (hJ : ∀ a, a ≠ k → J' a = J a) : (wl bs y I J).set k (bs + k, cE bs y I' J' k) = wl bs y I' J' := by
  apply List.ext_getElem?
  intro i
  by_cases hi : i < y.2.2.2
  · by_cases hk : k = i
    · subst hk
      rw [List.getElem?_set_self (by rw [wl_len]; exact hi), wl_at hi]
    · rw [List.getElem?_set_ne hk, wl_at hi, wl_at hi, cE_congr (hI i (Ne.symm hk)) (hJ i (Ne.symm hk))]
  · rw [List.getElem?_eq_none (by simp [wl_len]; omega), List.getElem?_eq_none (by rw [wl_len]; omega)]
theorem upM_ne {I : MI} {k j : Nat} {v : Int32} (a : Nat) (h : a ≠ k) : upM I k j v a = I a := if_neg h
theorem upM_eq {I : MI} {k j : Nat} {v : Int32} : upM I k j v k = upd (I k) j v := if_pos rfl
theorem upN_ne {J : MJ} {k j : Nat} {v : Int64} (a : Nat) (h : a ≠ k) : upN J k j v a = J a := if_neg h
theorem upN_eq {J : MJ} {k j : Nat} {v : Int64} : upN J k j v k = vp_updL (J k) j v := if_pos rfl
/-- a field's cell, its class, its type -/
def okF (k ci j N t cb : Nat) : Bool := decide (kd k = (0, ci)) && decide (k < cb) && decide (j < N) && decide ((ftL.getD ci []).length = N) && decide (ftc ci j = t)
theorem okF_s {k ci j N t cb : Nat} (h : okF k ci j N t cb = true) : kd k = (0, ci) ∧ k < cb ∧ j < N ∧ (ftL.getD ci []).length = N ∧ ftc ci j = t := by
  simp only [okF, Bool.and_eq_true, decide_eq_true_eq] at h
  exact ⟨h.1.1.1.1, h.1.1.1.2, h.1.1.2, h.1.2, h.2⟩
theorem wl_obj {bs : Nat} {y : Y3} {I : MI} {J : MJ} {k ci : Nat} (hk : k < y.2.2.2) (h : kd k = (0, ci)) : (wl bs y I J)[k]? = some (bs + k, .inr (ci, fsl bs I J k ci)) := by
  rw [wl_at hk]; simp only [cE, h]
theorem kd_lt {k t n : Nat} (h : kd k = (t, n)) (ht : t ≠ 9) : k < 76 := by
  by_cases hk : k < 76
  · exact hk
  · have : kd k = (9, 0) := by
      have h76 : kdL.length = 76 := by decide +kernel
      unfold kd
      rw [List.getD_eq_getElem?_getD, List.getElem?_eq_none (by omega)]
      rfl
    rw [this] at h
    cases h
    exact absurd rfl ht
def alb (cb k : Nat) : Nat := if k < cb then aln k else 0
theorem aln_s {k n : Nat} (h : aln k = n) (hn : n ≠ 0) : kd k = (1, n) := by
  unfold aln at h
  split at h
  · rename_i q; rw [q, h]
  · exact absurd h.symm hn
def albJ (cb k : Nat) : Nat := if k < cb then alJ k else 0
theorem alJ_s {k n : Nat} (h : alJ k = n) (hn : n ≠ 0) : kd k = (2, n) := by
  unfold alJ at h
  split at h
  · rename_i q; rw [q, h]
  · exact absurd h.symm hn
def albZ (cb k : Nat) : Nat := if k < cb then alZ k else 0
theorem alZ_s {k n : Nat} (h : alZ k = n) (hn : n ≠ 0) : kd k = (3, n) := by
  unfold alZ at h
  split at h
  · rename_i q; rw [q, h]
  · exact absurd h.symm hn
theorem alb_s {cb k n : Nat} (h : alb cb k = n) (hn : n ≠ 0) : k < cb ∧ kd k = (1, n) := by
  unfold alb at h
  split at h
  · rename_i q; exact ⟨q, aln_s h hn⟩
  · exact absurd h.symm hn
theorem wl_arrI {bs : Nat} {y : Y3} {I : MI} {J : MJ} {k n : Nat} (hk : k < y.2.2.2) (h : kd k = (1, n)) : (wl bs y I J)[k]? = some (bs + k, .inl (y.1, n, .inl (I k))) := by
  rw [wl_at hk]; simp only [cE, h]
theorem albJ_s {cb k n : Nat} (h : albJ cb k = n) (hn : n ≠ 0) : k < cb ∧ kd k = (2, n) := by
  unfold albJ at h
  split at h
  · rename_i q; exact ⟨q, alJ_s h hn⟩
  · exact absurd h.symm hn
theorem wl_arrJ {bs : Nat} {y : Y3} {I : MI} {J : MJ} {k n : Nat} (hk : k < y.2.2.2) (h : kd k = (2, n)) : (wl bs y I J)[k]? = some (bs + k, .inl (y.2.1, n, .inr (.inl (J k)))) := by
  rw [wl_at hk]; simp only [cE, h]
theorem albZ_s {cb k n : Nat} (h : albZ cb k = n) (hn : n ≠ 0) : k < cb ∧ kd k = (3, n) := by
  unfold albZ at h
  split at h
  · rename_i q; exact ⟨q, alZ_s h hn⟩
  · exact absurd h.symm hn
theorem wl_arrZ {bs : Nat} {y : Y3} {I : MI} {J : MJ} {k n : Nat} (hk : k < y.2.2.2) (h : kd k = (3, n)) : (wl bs y I J)[k]? = some (bs + k, .inl (y.2.2.1, n, .inl (I k))) := by
  rw [wl_at hk]; simp only [cE, h]
theorem inb_ne {i : Int32} {n : Nat} (h : inb i n = true) : n ≠ 0 := by
  intro e
  subst e
  exact (inb_in h) (Or.inr (Nat.zero_le _))
theorem fsl_setI {bs : Nat} {I : MI} {J : MJ} {k ci j : Nat} {v : Int32} (ht : ftc ci j = 0) : (fsl bs I J k ci).set j (.int v) = fsl bs (upM I k j v) J k ci := by
  apply List.ext_getElem?
  intro i
  by_cases hi : i < (ftL.getD ci []).length
  · by_cases hj : j = i
    · subst hj
      rw [List.getElem?_set_self (by rw [fsl_len]; exact hi), fsl_at hi]
      simp [fvl, ht, upM_eq, upd]
    · rw [List.getElem?_set_ne hj, fsl_at hi, fsl_at hi]
      have : upM I k j v k i = I k i := by rw [upM_eq]; exact if_neg (Ne.symm hj)
      unfold fvl
      rw [this]
  · rw [List.getElem?_eq_none (by rw [List.length_set, fsl_len]; omega), List.getElem?_eq_none (by rw [fsl_len]; omega)]
theorem fsl_setJ {bs : Nat} {I : MI} {J : MJ} {k ci j : Nat} {v : Int64} (ht : ftc ci j = 1) : (fsl bs I J k ci).set j (.long v) = fsl bs I (upN J k j v) k ci := by
  apply List.ext_getElem?
  intro i
  by_cases hi : i < (ftL.getD ci []).length
  · by_cases hj : j = i
    · subst hj
      rw [List.getElem?_set_self (by rw [fsl_len]; exact hi), fsl_at hi]
      simp [fvl, ht, upN_eq, vp_updL]
    · rw [List.getElem?_set_ne hj, fsl_at hi, fsl_at hi]
      have : upN J k j v k i = J k i := by rw [upN_eq]; exact if_neg (Ne.symm hj)
      unfold fvl
      rw [this]
  · rw [List.getElem?_eq_none (by rw [List.length_set, fsl_len]; omega), List.getElem?_eq_none (by rw [fsl_len]; omega)]
/-- nest mates' words, and the static row of letters -/
def HN (U : State) : Prop := ∀ (a : String) (i : Nat) (x : MethodName) (h : String), Cond.methodLinkNest a i x h ∈ tables_1 → va_Nw (.methodLinkNest a i x h) U
def lbf (j : Nat) : Int32 := match j with
  | 0 => 43690
  | 1 => 52428
  | 2 => 61680
  | _ => 65280
def LB (bs : Nat) (U : State) (H : Heap) : Prop := ∃ a : Nat, va_Z "ClothMaker$Tables" "LETTER_BITS" "[I" (.ref a) (fun q => bs ≤ q) U H ∧ va_T .int a 4 (fun j => .int (lbf j)) (fun q => bs ≤ q) U H
def HB (bs : Nat) (D : va_G) (y : Y3) (I : MI) (J : MJ) (U : State) : Prop := va_P D vwCl (wl bs y I J) U.heap ∧ va_K D vwCl (tyl y) U ∧ HN U ∧ LB bs U U.heap
theorem LB.at {bs : Nat} {s U : State} {H : Heap} {locs : List Loc} (h : LB bs s s.heap) (hS : va_S (fun q => bs ≤ q) s.heap H locs) (hvm : s.vm.Alike U.vm) : LB bs U H := by
  obtain ⟨a, hz, ht⟩ := h
  exact ⟨a, (hz.kept (fun q h1 h2 => hS.2.1 q h1 h2)).moved hvm, (ht.kept (fun q h1 h2 => hS.2.1 q h1 h2)).moved hvm⟩
theorem HN.at {s U : State} (h : HN s) (hW : s.WarmedH U.vm) : HN U := fun a i x q hm => (h a i x q hm).warmM hW
theorem HB.at {bs : Nat} {D : va_G} {y : Y3} {I : MI} {J : MJ} {s U : State} {H : Heap} {locs : List Loc} (hP : va_P D vwCl (wl bs y I J) H) (hK : va_K D vwCl (tyl y) s) (hN : HN s) (hL : LB bs s s.heap) (hS : va_S (fun q => bs ≤ q) s.heap H locs) (hU : U.heap = H) (hW : s.WarmedH U.vm) : HB bs D y I J U :=
  ⟨by rw [hU]; exact hP, hK.moved hW.alike, hN.at hW, by rw [hU]; exact hL.at hS hW.alike⟩
theorem HB.blind {bs : Nat} {D : va_G} {y : Y3} {I : MI} {J : MJ} {av : List Value} : FrameBlind (va_Pc av (HB bs D y I J)) := by
  intro a U g mk q
  obtain ⟨q0, qP, qK, qN, qL⟩ := q
  refine ⟨q0, qP, va_K.moved (u := U) (U := U.calling g mk a) (Vm.Alike.refl U.vm) qK, fun b i x h hm => va_Nw.same rfl rfl (qN b i x h hm), ?_⟩
  obtain ⟨b, hz, h3⟩ := qL
  exact ⟨b, hz.moved (Vm.Alike.refl U.vm), h3.moved (Vm.Alike.refl U.vm)⟩
/-- what a method's walk stands on -/
def Gx (p : Program) (s : State) (m : MethodId) (args : Array Value) (meth : Method) (c : Code) (cc : ByteArray) (nL : Nat) (own : String) (bs : Nat) (D : va_G) (y : Y3) (rt : Option FieldType) (cb : Nat) : Prop :=
  p.tables.exec = Jvm.exec ∧ c.code = cc ∧ c.maxLocals = nL ∧ s.vm.findClass own = some m.cls ∧ (∀ w ∈ gtb, w.before args s = true) ∧ va_K D vwCl (tyl y) s ∧ HN s ∧ LB bs s s.heap ∧ meth.sig.returnType = rt ∧ meth.locks = false ∧ cb ≤ y.2.2.2
abbrev FA (bs : Nat) : Nat → Prop := fun q => bs ≤ q
/-- a method's end: an int, a long, nothing -/
abbrev QcI (bs : Nat) (D : va_G) (y : Y3) (r : Int32 × M2) : Array Value → State → Outcome → State → Prop := va_Qi (fun (x : Int32) (_ : Unit) => x = r.1) (fun _ t => HB bs D y r.2.1 r.2.2 t) (FA bs)
abbrev QcJ (bs : Nat) (D : va_G) (y : Y3) (r : Int64 × M2) : Array Value → State → Outcome → State → Prop := va_Ql (fun (x : Int64) (_ : Unit) => x = r.1) (fun _ t => HB bs D y r.2.1 r.2.2 t) (FA bs)
abbrev QcV (bs : Nat) (D : va_G) (y : Y3) (r : M2) : Array Value → State → Outcome → State → Prop := va_Qv (fun (_ : Unit) => True) (fun _ t => HB bs D y r.1 r.2 t) (FA bs)
abbrev QI (below : List Frame) (args : Array Value) (s : State) (bs : Nat) (D : va_G) (y : Y3) (r : Int32 × M2) : State → Prop := MQ below (QcI bs D y r) args s 0 0 (FA bs)
abbrev QJ (below : List Frame) (args : Array Value) (s : State) (bs : Nat) (D : va_G) (y : Y3) (r : Int64 × M2) : State → Prop := MQ below (QcJ bs D y r) args s 0 0 (FA bs)
abbrev QV (below : List Frame) (args : Array Value) (s : State) (bs : Nat) (D : va_G) (y : Y3) (r : M2) : State → Prop := MQ below (QcV bs D y r) args s 0 0 (FA bs)
