/-! the world while it is made -/
abbrev CW : Type := Nat → va_E
def cset (C : CW) (k : Nat) (e : va_E) : CW := fun a => if a = k then e else C a
def wc (bs nc : Nat) (C : CW) : va_W := (List.range nc).map (fun k => (bs + k, C k))
def HC (bs : Nat) (D : va_G) (y : Y3) (nc : Nat) (C : CW) (U : State) : Prop := U.heap.size = bs + nc ∧ va_P D vwCl (wc bs nc C) U.heap ∧ va_K D vwCl (tyl y) U ∧ HN U ∧ LB bs U U.heap
def zI : MI := fun _ _ => 0
def zJ : MJ := fun _ _ => 0
theorem cset_eq {C : CW} {k : Nat} {e : va_E} : cset C k e k = e := if_pos rfl
theorem cset_ne {C : CW} {k a : Nat} {e : va_E} (h : a ≠ k) : cset C k e a = C a := if_neg h
theorem wc_at {bs nc k : Nat} {C : CW} (h : k < nc) : (wc bs nc C)[k]? = some (bs + k, C k) := by simp [wc, h]
theorem wc_len {bs nc : Nat} {C : CW} : (wc bs nc C).length = nc := by simp [wc]
theorem wc_D {bs nc : Nat} {C : CW} : va_D (FA bs) (wc bs nc C) := by
  have key : ∀ (i : Nat) (q : Nat × va_E), (wc bs nc C)[i]? = some q → q.1 = bs + i := by
    intro i q h
    by_cases hi : i < nc
    · rw [wc_at hi] at h; cases h; rfl
    · rw [List.getElem?_eq_none (by rw [wc_len]; omega)] at h; cases h
  refine ⟨fun i j p q hp hq e => ?_, fun k q hq => ?_⟩
  · have h1 := key i p hp
    have h2 := key j q hq
    omega
  · have h1 := key k q hq
    show bs ≤ q.1
    omega
theorem wc_push {bs nc : Nat} {C : CW} {e : va_E} : wc bs nc C ++ [(bs + nc, e)] = wc bs (nc + 1) (cset C nc e) := by
  unfold wc
  rw [List.range_succ, List.map_append]
  have h1 : (List.range nc).map (fun k => (bs + k, C k)) = (List.range nc).map (fun k => (bs + k, cset C nc e k)) := by
    apply List.map_congr_left
    intro k hk
    rw [cset_ne (Nat.ne_of_lt (List.mem_range.mp hk))]
  rw [h1]
  simp [cset_eq]
theorem wc_set {bs nc k : Nat} {C : CW} {e : va_E} : (wc bs nc C).set k (bs + k, e) = wc bs nc (cset C k e) := by
  apply List.ext_getElem?
  intro i
  by_cases hi : i < nc
  · by_cases hk : k = i
    · subst hk
      rw [List.getElem?_set_self (by rw [wc_len]; exact hi), wc_at hi, cset_eq]
    · rw [List.getElem?_set_ne hk, wc_at hi, wc_at hi, cset_ne (Ne.symm hk)]
  · rw [List.getElem?_eq_none (by rw [List.length_set, wc_len]; omega), List.getElem?_eq_none (by rw [wc_len]; omega)]
theorem wc_congr {bs nc : Nat} {C C' : CW} (h : ∀ a, a < nc → C a = C' a) : wc bs nc C = wc bs nc C' := by
  unfold wc
  apply List.map_congr_left
  intro k hk
  rw [h k (List.mem_range.mp hk)]
theorem HC.at {bs nc : Nat} {D : va_G} {y : Y3} {C : CW} {s U : State} {H : Heap} {locs : List Loc} (hz : H.size = bs + nc) (hP : va_P D vwCl (wc bs nc C) H) (hK : va_K D vwCl (tyl y) s) (hN : HN s) (hL : LB bs s s.heap) (hS : va_S (FA bs) s.heap H locs) (hU : U.heap = H) (hW : s.WarmedH U.vm) : HC bs D y nc C U :=
  ⟨by rw [hU]; exact hz, by rw [hU]; exact hP, hK.moved hW.alike, hN.at hW, by rw [hU]; exact hL.at hS hW.alike⟩
theorem HC.blind {bs nc : Nat} {D : va_G} {y : Y3} {C : CW} {av : List Value} : FrameBlind (va_Pc av (HC bs D y nc C)) := by
  intro a U g mk q
  obtain ⟨q0, qz, qP, qK, qN, qL⟩ := q
  refine ⟨q0, qz, qP, va_K.moved (u := U) (U := U.calling g mk a) (Vm.Alike.refl U.vm) qK, fun b i x h hm => va_Nw.same rfl rfl (qN b i x h hm), ?_⟩
  obtain ⟨b, hz, h3⟩ := qL
  exact ⟨b, hz.moved (Vm.Alike.refl U.vm), h3.moved (Vm.Alike.refl U.vm)⟩
section MKS
variable {p : Program} {l : Launch} {e : Env} {R : Room} {s : State} {m : MethodId} {args : Array Value} {below : List Frame} {meth : Method} {c : Code} {H : Heap} {locs : List Loc} {cells slots : Nat} {Q : State → Prop} {pc : Nat} {ls : Array Slot} {rest : List Value} {bs nc : Nat} {D : va_G} {y : Y3} {C : CW} {cc : ByteArray}
theorem n_O {own K : String} {T : u_T} {N ci index : Nat} (ty : Nat → FieldType) (fs : List Value) (hx : p.tables.exec = Jvm.exec) (hb : c.code = cc) (hts : ∀ w ∈ gtb, w.before args s = true) (hown : s.vm.findClass own = some m.cls) (hK : va_K D vwCl (tyl y) s) (hP : va_P D vwCl (wc bs nc C) H) (hz : H.size = bs + nc) (hS : va_S (FA bs) s.heap H locs) (hin : ∀ w ∈ u_ws K T N, w ∈ gtb) (hty : ∀ k, k < N → parseFieldDescriptor (T k).2.2.1 = some (ty k)) (hcl : Cond.classLink own index K ∈ gtb) (hinst : Cond.instantiable K N ∈ gtb) (hini : Cond.initialized K ∈ gtb) (hc : vwCl[ci]? = some (K, T, N)) (hfs : ∀ j, j < N → defaultValue (ty j) = vp_V fs j) (hcells : cells + 1 ≤ R.cells) (hslots : slots + N ≤ R.slots) (hdg : decode cc pc = .ok (.new index, 3))
    (kk : ∀ (H1 : Heap), va_P D vwCl (wc bs (nc + 1) (cset C nc (.inr (ci, fs)))) H1 → H1.size = bs + (nc + 1) → va_S (FA bs) s.heap H1 locs → W p l e R s m args below meth c H1 locs (cells + 1) (slots + N) Q (F0 m (pc + 3) ls (.ref (bs + nc) :: rest))) : W p l e R s m args below meth c H locs cells slots Q (F0 m pc ls rest) := by
  have hKn := hK.1 ci _ hc
  refine W.newcK hx hb hown (hts _ hcl) (hts _ hinst) (hts _ hini) rfl hdg hcells hslots hKn.2.1 hz fun H1 kC hkC e1 z1 o1 => ?_
  have hk : ∀ (k : Nat) (x : Nat × va_E), (wc bs nc C)[k]? = some x → H1[x.1]? = H[x.1]? := fun k x hx => o1 x.1 (by rw [← hz]; exact (hP k x hx).lt)
  refine kk H1 ?_ (by omega) ⟨Nat.le_trans hS.1 (by omega), fun x h1 h2 => (o1 x (by rw [← hz]; exact Nat.lt_of_lt_of_le h1 hS.1)).trans (hS.2.1 x h1 h2), hS.2.2⟩
  rw [← wc_push]
  refine (hP.kept hk).app (fun k x hx => ?_)
  have hz1 : k < 1 := (List.getElem?_eq_some_iff.mp hx).1
  rw [show k = 0 by omega] at hx
  cases hx
  exact ⟨_, hc, (u_born ty hts hin hKn hkC e1 hty).to hfs⟩
theorem n_A {atype : ArrayType} {n : Int32} {N' t0 : Nat} {a0 : vp_A} {ty : FieldType} {cA0 : ClassId} (hx : p.tables.exec = Jvm.exec) (hb : c.code = cc) (hts : ∀ w ∈ gtb, w.before args s = true) (hK : va_K D vwCl (tyl y) s) (hP : va_P D vwCl (wc bs nc C) H) (hz : H.size = bs + nc) (hS : va_S (FA bs) s.heap H locs) (harr : Cond.arrayClass ty ∈ gtb) (hty : newarray.typeOf atype = ty) (ht : (tyl y)[t0]? = some (cA0, ty)) (hra : ∀ cA, va_RA s cA ty = (s.vm.findClass ("[" ++ ty.toString) = some cA)) (ha : ∀ cA : ClassId, vp_cell cA a0 = arrV cA N' (fun _ => defaultValue ty)) (hn : ¬ n < 0) (hN : n.toNatClampNeg = N') (hbytes : N' * componentBytes ty ≤ 536870912) (hcells : cells + 1 ≤ R.cells) (hslots : slots + N' ≤ R.slots) (hdg : decode cc pc = .ok (.newarray atype, 2))
    (kk : ∀ (H1 : Heap), va_P D vwCl (wc bs (nc + 1) (cset C nc (.inl (cA0, a0)))) H1 → H1.size = bs + (nc + 1) → va_S (FA bs) s.heap H1 locs → W p l e R s m args below meth c H1 locs (cells + 1) (slots + N') Q (F0 m (pc + 2) ls (.ref (bs + nc) :: rest))) : W p l e R s m args below meth c H locs cells slots Q (F0 m pc ls (.int n :: rest)) := by
  subst hty
  refine va_newaK hx hb (hts _ harr) rfl hdg rfl hn hN hbytes hcells hslots hz fun H1 cA e1 z1 o1 hAr hNm => ?_
  have hk : ∀ (k : Nat) (x : Nat × va_E), (wc bs nc C)[k]? = some x → H1[x.1]? = H[x.1]? := fun k x hx => o1 x.1 (by rw [← hz]; exact (hP k x hx).lt)
  have h0 := (hK.2 t0 _ ht).2
  rw [hra] at h0
  have hc : cA = cA0 := Option.some.inj (hNm.symm.trans h0)
  subst hc
  refine kk H1 ?_ (by omega) ⟨Nat.le_trans hS.1 (by omega), fun x h1 h2 => (o1 x (by rw [← hz]; exact Nat.lt_of_lt_of_le h1 hS.1)).trans (hS.2.1 x h1 h2), hS.2.2⟩
  rw [← wc_push]
  refine (hP.kept hk).app (fun k x hx => ?_)
  have hz1 : k < 1 := (List.getElem?_eq_some_iff.mp hx).1
  rw [show k = 0 by omega] at hx
  cases hx
  show H1[bs + nc]? = some (vp_cell _ _)
  rw [ha]
  exact e1
/-- a final field, in its constructor -/
theorem p_F {own K : String} {T : u_T} {N ci index : Nat} {ty : FieldType} {v : Value} {fs : List Value} (k j : Nat) (ty0 : Nat → FieldType) (hx : p.tables.exec = Jvm.exec) (hb : c.code = cc) (hts : ∀ w ∈ gtb, w.before args s = true) (hown : s.vm.findClass own = some m.cls) (hin2 : meth.name = "<init>") (hK : va_K D vwCl (tyl y) s) (hP : va_P D vwCl (wc bs nc C) H) (hz : H.size = bs + nc) (hS : va_S (FA bs) s.heap H locs) (hin : ∀ w ∈ u_ws K T N, w ∈ gtb) (hty : ∀ k, k < N → parseFieldDescriptor (T k).2.2.1 = some (ty0 k)) (hnm : ∀ a, a < N → ∀ b, b < N → a ≠ b → (T a).2.1 ≠ (T b).2.1) (hc : vwCl[ci]? = some (K, T, N)) (hk : k < nc) (hC : C k = .inr (ci, fs)) (hj : j < N) (hl : Cond.fieldLink own index (T j).1 (T j).2.1 (T j).2.2.1 ∈ gtb) (hfin : (T j).2.2.2 = true) (hdecl : (T j).1 = own) (hd : parseFieldDescriptor (T j).2.2.1 = some ty) (hn : narrow ty v = v) (hfit : fits ty v = true) (hlen : j < fs.length) (hdg : decode cc pc = .ok (.putfield index, 3))
    (kk : ∀ (H1 : Heap) (locs1 : List Loc), va_P D vwCl (wc bs nc (cset C k (.inr (ci, fs.set j v)))) H1 → H1.size = bs + nc → va_S (FA bs) s.heap H1 locs1 → W p l e R s m args below meth c H1 locs1 cells slots Q (F0 m (pc + 3) ls rest)) : W p l e R s m args below meth c H locs cells slots Q (F0 m pc ls (v :: .ref (bs + k) :: rest)) := by
  have he : (wc bs nc C)[k]? = some (bs + k, .inr (ci, fs)) := by rw [wc_at hk, hC]
  have hap := va_apart (own := own) hts hin ty0 hty hnm hK hc
  obtain ⟨r, h1, cell, q1, q2, q3, q4⟩ := hP k _ he
  have hr : r = (K, T, N) := Option.some.inj (h1.symm.trans hc)
  subst hr
  obtain ⟨hSl, hfc, kC, hkC, hkind⟩ := hK.1 ci _ hc
  obtain ⟨cf, kf, fi, f, hi, hsl⟩ := hSl j hj
  have hlay := hts _ (hin _ (u_in_lay hj))
  unfold u_lay at hlay
  rw [if_pos hfin] at hlay
  have hst := (u_facts hfc hkC (u_lays hts hin hj) hi).1
  have hcf : m.cls = cf := by
    obtain ⟨_, _, c', _, _, _, -, -, hf', -, -, -, hown2, -⟩ := Cond.laysFinal_spec hlay
    have e1 : c' = cf := by have := hi.symm.trans hf'; simp at this; exact this.1.symm
    rw [hdecl] at hown2
    rw [← e1]; exact Option.some.inj (hown.symm.trans hown2)
  have h6 := u_fits hfc hkC hkind (Or.inr hlay) hi hd hn hfit
  refine W.putFinK hx hb hown (hts _ hl) hi hst hcf hin2 (by rw [q2]; exact h6) q1 q3 (by rw [hsl]; exact k2_hasslot (q4 j hj)) rfl rfl hdg fun H' e1 e2 e3 => ?_
  rw [hsl] at e1 ⊢
  refine kk H' _ ?_ (by rw [e2]; exact hz) (hS.put e2 e3 (wc_D.2 k _ he))
  rw [← wc_set]
  exact hP.set wc_D he ⟨_, hc, t_OB.to (V := updV (vp_V fs) j v) ⟨_, e1, q2, q3, t_set q4 hap hj v⟩ (fun j _ => vp_updV_set hlen v j)⟩ e3
/-- a field that isn't final -/
theorem p_N {own K : String} {T : u_T} {N ci index : Nat} {ty : FieldType} {v : Value} {fs : List Value} (k j : Nat) (ty0 : Nat → FieldType) (hx : p.tables.exec = Jvm.exec) (hb : c.code = cc) (hts : ∀ w ∈ gtb, w.before args s = true) (hown : s.vm.findClass own = some m.cls) (hK : va_K D vwCl (tyl y) s) (hP : va_P D vwCl (wc bs nc C) H) (hz : H.size = bs + nc) (hS : va_S (FA bs) s.heap H locs) (hin : ∀ w ∈ u_ws K T N, w ∈ gtb) (hty : ∀ k, k < N → parseFieldDescriptor (T k).2.2.1 = some (ty0 k)) (hnm : ∀ a, a < N → ∀ b, b < N → a ≠ b → (T a).2.1 ≠ (T b).2.1) (hc : vwCl[ci]? = some (K, T, N)) (hk : k < nc) (hC : C k = .inr (ci, fs)) (hj : j < N) (hl : Cond.fieldLink own index (T j).1 (T j).2.1 (T j).2.2.1 ∈ gtb) (hfin : (T j).2.2.2 = false) (hd : parseFieldDescriptor (T j).2.2.1 = some ty) (hn : narrow ty v = v) (hfit : fits ty v = true) (hlen : j < fs.length) (hdg : decode cc pc = .ok (.putfield index, 3))
    (kk : ∀ (H1 : Heap) (locs1 : List Loc), va_P D vwCl (wc bs nc (cset C k (.inr (ci, fs.set j v)))) H1 → H1.size = bs + nc → va_S (FA bs) s.heap H1 locs1 → W p l e R s m args below meth c H1 locs1 cells slots Q (F0 m (pc + 3) ls rest)) : W p l e R s m args below meth c H locs cells slots Q (F0 m pc ls (v :: .ref (bs + k) :: rest)) := by
  have he : (wc bs nc C)[k]? = some (bs + k, .inr (ci, fs)) := by rw [wc_at hk, hC]
  have hap := va_apart (own := own) hts hin ty0 hty hnm hK hc
  obtain ⟨r, h1, cell, q1, q2, q3, q4⟩ := hP k _ he
  have hr : r = (K, T, N) := Option.some.inj (h1.symm.trans hc)
  subst hr
  obtain ⟨hSl, hfc, kC, hkC, hkind⟩ := hK.1 ci _ hc
  obtain ⟨cf, kf, fi, f, hi, hsl⟩ := hSl j hj
  have hlay := hts _ (hin _ (u_in_lay hj))
  unfold u_lay at hlay
  rw [if_neg (by rw [hfin]; decide)] at hlay
  have hst := (u_facts hfc hkC (u_lays hts hin hj) hi).1
  have h6 := u_store hfc hkC hkind hlay hi hd hn hfit
  refine W.putK hx hb (f := f) ⟨hown, hts _ hl, ⟨_, _, _, hi⟩, hst⟩ (by rw [q2]; exact h6) q1 q3 (by rw [hsl]; exact k2_hasslot (q4 j hj)) rfl rfl hdg fun H' e1 e2 e3 => ?_
  rw [hsl] at e1 ⊢
  refine kk H' _ ?_ (by rw [e2]; exact hz) (hS.put e2 e3 (wc_D.2 k _ he))
  rw [← wc_set]
  exact hP.set wc_D he ⟨_, hc, t_OB.to (V := updV (vp_V fs) j v) ⟨_, e1, q2, q3, t_set q4 hap hj v⟩ (fun j _ => vp_updV_set hlen v j)⟩ e3
theorem q_R {own K : String} {T : u_T} {N ci index : Nat} {fs : List Value} {v : Value} (k j : Nat) (hx : p.tables.exec = Jvm.exec) (hb : c.code = cc) (hts : ∀ w ∈ gtb, w.before args s = true) (hown : s.vm.findClass own = some m.cls) (hK : va_K D vwCl (tyl y) s) (hP : va_P D vwCl (wc bs nc C) H) (hin : ∀ w ∈ u_ws K T N, w ∈ gtb) (hc : vwCl[ci]? = some (K, T, N)) (hk : k < nc) (hC : C k = .inr (ci, fs)) (hj : j < N) (hl : Cond.fieldLink own index (T j).1 (T j).2.1 (T j).2.2.1 ∈ gtb) (hv : fs[j]? = some v) (hdg : decode cc pc = .ok (.getfield index, 3))
    (kk : W p l e R s m args below meth c H locs cells slots Q (F0 m (pc + 3) ls (v :: rest))) : W p l e R s m args below meth c H locs cells slots Q (F0 m pc ls (.ref (bs + k) :: rest)) :=
  va_get (D := D) (ci := ci) (v := v) (C := K) (T := T) (N := N) hx hb hts hin hown hK hP k (by rw [wc_at hk, hC]) hc j hj (hts _ hl) (fun _ h => h) hv hdg kk
/-- a constructor's end -/
theorem r_C {bs nc mc ms : Nat} {post : CW → Prop} (hx : p.tables.exec = Jvm.exec) (hb : c.code = cc) (hr : meth.sig.returnType = none) (hlocks : meth.locks = false) (hP : va_P D vwCl (wc bs nc C) H) (hz : H.size = bs + nc) (hK : va_K D vwCl (tyl y) s) (hN : HN s) (hL : LB bs s s.heap) (hS : va_S (FA bs) s.heap H locs) (hq : post C) (hdg : decode cc pc = .ok (.return_, 1)) : W p l e R s m args below meth c H locs mc ms (MQ below (va_Qv post (fun C1 t => HC bs D y nc C1 t) (FA bs)) args s mc ms (FA bs)) (F0 m pc ls []) :=
  W.vret hx hb hr (fun t ht hW => ⟨⟨C, rfl, hq, HC.at hz hP hK hN hL hS ht hW⟩, hS.F ht⟩) hS.2.2 hdg
end MKS
