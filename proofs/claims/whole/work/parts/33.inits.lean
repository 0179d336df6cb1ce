/-! the constructors -/
theorem W.sized {p : Program} {l : Launch} {e : Env} {R : Room} {s : State} {m : MethodId} {args : Array Value} {below : List Frame} {meth : Method} {c : Code} {H : Heap} {locs : List Loc} {cells slots : Nat} {Q : State → Prop} {g : JFrame} (k : H.size ≤ s.heap.size + cells → W p l e R s m args below meth c H locs cells slots Q g) : W p l e R s m args below meth c H locs cells slots Q g := by
  intro T hT X
  have h1 := X.same.2.2.1
  have h2 : (T.setVm s.vm).heap = H := hT
  rw [h2] at h1
  exact k h1 T hT X
/-- the reference's own start -/
def iniM : MI := fun a j => if a = 44 then (match j with
  | 24 => 3
  | 25 => 3
  | 26 => 2
  | 27 => 2
  | 45 => -1
  | 48 => -1
  | _ => 0) else 0
theorem oi_inst : Cond.instanceMethod objectInit ∈ gtb := gtb_mem (List.mem_append_right _ (List.mem_of_getElem? (i := 22) (by decide +kernel))) rfl
theorem oi_code : Cond.code objectInit ⟨#[0xb1]⟩ 1 none ∈ gtb := gtb_mem (List.mem_append_right _ (List.mem_of_getElem? (i := 23) (by decide +kernel))) rfl
theorem ac_int : Cond.arrayClass .int ∈ gtb := gtb_mem (List.mem_append_right _ (List.mem_of_getElem? (i := 90) (by decide +kernel))) rfl
theorem ac_long : Cond.arrayClass .long ∈ gtb := gtb_mem (List.mem_append_right _ (List.mem_of_getElem? (i := 109) (by decide +kernel))) rfl
theorem ac_boolean : Cond.arrayClass .boolean ∈ gtb := gtb_mem (List.mem_append_right _ (List.mem_of_getElem? (i := 1071) (by decide +kernel))) rfl
theorem ins_X0 : Cond.instantiable RX0 3 ∈ gtb := gtb_mem (List.mem_append_right _ (List.mem_of_getElem? (i := 92) (by decide +kernel))) rfl
theorem ini_X0 : Cond.initialized RX0 ∈ gtb := gtb_mem (List.mem_append_right _ (List.mem_of_getElem? (i := 3) (by decide +kernel))) rfl
theorem ins_X1 : Cond.instantiable RX1 5 ∈ gtb := gtb_mem (List.mem_append_right _ (List.mem_of_getElem? (i := 261) (by decide +kernel))) rfl
theorem ini_X1 : Cond.initialized RX1 ∈ gtb := gtb_mem (List.mem_append_right _ (List.mem_of_getElem? (i := 8) (by decide +kernel))) rfl
theorem ins_X2 : Cond.instantiable RX2 10 ∈ gtb := gtb_mem (List.mem_append_right _ (List.mem_of_getElem? (i := 147) (by decide +kernel))) rfl
theorem ini_X2 : Cond.initialized RX2 ∈ gtb := gtb_mem (List.mem_append_right _ (List.mem_of_getElem? (i := 5) (by decide +kernel))) rfl
theorem ins_X3 : Cond.instantiable RX3 11 ∈ gtb := gtb_mem (List.mem_append_right _ (List.mem_of_getElem? (i := 25) (by decide +kernel))) rfl
theorem ini_X3 : Cond.initialized RX3 ∈ gtb := gtb_mem (List.mem_append_right _ (List.mem_of_getElem? (i := 2) (by decide +kernel))) rfl
theorem ins_X4 : Cond.instantiable RX4 3 ∈ gtb := gtb_mem (List.mem_append_right _ (List.mem_of_getElem? (i := 316) (by decide +kernel))) rfl
theorem ini_X4 : Cond.initialized RX4 ∈ gtb := gtb_mem (List.mem_append_right _ (List.mem_of_getElem? (i := 10) (by decide +kernel))) rfl
theorem ins_X5 : Cond.instantiable RX5 7 ∈ gtb := gtb_mem (List.mem_append_right _ (List.mem_of_getElem? (i := 196) (by decide +kernel))) rfl
theorem ini_X5 : Cond.initialized RX5 ∈ gtb := gtb_mem (List.mem_append_right _ (List.mem_of_getElem? (i := 6) (by decide +kernel))) rfl
theorem ins_X6 : Cond.instantiable RX6 6 ∈ gtb := gtb_mem (List.mem_append_right _ (List.mem_of_getElem? (i := 287) (by decide +kernel))) rfl
theorem ini_X6 : Cond.initialized RX6 ∈ gtb := gtb_mem (List.mem_append_right _ (List.mem_of_getElem? (i := 9) (by decide +kernel))) rfl
theorem ins_X7 : Cond.instantiable RX7 7 ∈ gtb := gtb_mem (List.mem_append_right _ (List.mem_of_getElem? (i := 111) (by decide +kernel))) rfl
theorem ini_X7 : Cond.initialized RX7 ∈ gtb := gtb_mem (List.mem_append_right _ (List.mem_of_getElem? (i := 4) (by decide +kernel))) rfl
theorem ins_X8 : Cond.instantiable RX8 6 ∈ gtb := gtb_mem (List.mem_append_right _ (List.mem_of_getElem? (i := 233) (by decide +kernel))) rfl
theorem ini_X8 : Cond.initialized RX8 ∈ gtb := gtb_mem (List.mem_append_right _ (List.mem_of_getElem? (i := 7) (by decide +kernel))) rfl
theorem ins_X9 : Cond.instantiable RX9 10 ∈ gtb := gtb_mem (List.mem_append_right _ (List.mem_of_getElem? (i := 17) (by decide +kernel))) rfl
theorem ini_X9 : Cond.initialized RX9 ∈ gtb := gtb_mem (List.mem_append_right _ (List.mem_of_getElem? (i := 1) (by decide +kernel))) rfl
theorem ins_X10 : Cond.instantiable RX10 49 ∈ gtb := gtb_mem (List.mem_append_right _ (List.mem_of_getElem? (i := 918) (by decide +kernel))) rfl
theorem ini_X10 : Cond.initialized RX10 ∈ gtb := gtb_mem (List.mem_append_right _ (List.mem_of_getElem? (i := 12) (by decide +kernel))) rfl
theorem kl_L_7 : Cond.classLink RL 7 RX9 ∈ gtb := gtb_mem (List.mem_append_right _ (List.mem_of_getElem? (i := 16) (by decide +kernel))) rfl
theorem kl_X9_9 : Cond.classLink RX9 9 RX3 ∈ gtb := gtb_mem (List.mem_append_right _ (List.mem_of_getElem? (i := 24) (by decide +kernel))) rfl
theorem kl_X9_16 : Cond.classLink RX9 16 RX0 ∈ gtb := gtb_mem (List.mem_append_right _ (List.mem_of_getElem? (i := 91) (by decide +kernel))) rfl
theorem kl_X9_23 : Cond.classLink RX9 23 RX7 ∈ gtb := gtb_mem (List.mem_append_right _ (List.mem_of_getElem? (i := 110) (by decide +kernel))) rfl
theorem kl_X9_30 : Cond.classLink RX9 30 RX2 ∈ gtb := gtb_mem (List.mem_append_right _ (List.mem_of_getElem? (i := 146) (by decide +kernel))) rfl
theorem kl_X9_37 : Cond.classLink RX9 37 RX5 ∈ gtb := gtb_mem (List.mem_append_right _ (List.mem_of_getElem? (i := 195) (by decide +kernel))) rfl
theorem kl_X9_44 : Cond.classLink RX9 44 RX8 ∈ gtb := gtb_mem (List.mem_append_right _ (List.mem_of_getElem? (i := 232) (by decide +kernel))) rfl
theorem kl_X9_51 : Cond.classLink RX9 51 RX1 ∈ gtb := gtb_mem (List.mem_append_right _ (List.mem_of_getElem? (i := 260) (by decide +kernel))) rfl
theorem kl_X9_58 : Cond.classLink RX9 58 RX6 ∈ gtb := gtb_mem (List.mem_append_right _ (List.mem_of_getElem? (i := 286) (by decide +kernel))) rfl
theorem kl_X9_65 : Cond.classLink RX9 65 RX4 ∈ gtb := gtb_mem (List.mem_append_right _ (List.mem_of_getElem? (i := 315) (by decide +kernel))) rfl
theorem kl_L_10 : Cond.classLink RL 10 RX10 ∈ gtb := gtb_mem (List.mem_append_right _ (List.mem_of_getElem? (i := 917) (by decide +kernel))) rfl
theorem tg_0 {bs : Nat} {y : Y3} : cE bs y zI zJ 0 = .inr (9, [.ref (bs + 1), .ref (bs + 7), .ref (bs + 11), .ref (bs + 16), .ref (bs + 22), .ref (bs + 28), .ref (bs + 34), .ref (bs + 38), .ref (bs + 41), .ref (bs + 43)]) := by rfl
theorem tg_1 {bs : Nat} {y : Y3} : cE bs y zI zJ 1 = .inr (3, [.ref (bs + 2), .ref (bs + 3), .ref (bs + 4), .ref (bs + 5), .ref (bs + 6), .int 0, .int 0, .int 0, .int 0, .int 0, .int 0]) := by rfl
theorem tg_2 {bs : Nat} {y : Y3} : cE bs y zI zJ 2 = .inl (y.1, 32, .inl (fun _ => 0)) := by rfl
theorem tg_3 {bs : Nat} {y : Y3} : cE bs y zI zJ 3 = .inl (y.1, 32, .inl (fun _ => 0)) := by rfl
theorem tg_4 {bs : Nat} {y : Y3} : cE bs y zI zJ 4 = .inl (y.1, 32, .inl (fun _ => 0)) := by rfl
theorem tg_5 {bs : Nat} {y : Y3} : cE bs y zI zJ 5 = .inl (y.1, 32, .inl (fun _ => 0)) := by rfl
theorem tg_6 {bs : Nat} {y : Y3} : cE bs y zI zJ 6 = .inl (y.1, 8, .inl (fun _ => 0)) := by rfl
theorem tg_7 {bs : Nat} {y : Y3} : cE bs y zI zJ 7 = .inr (0, [.ref (bs + 8), .ref (bs + 9), .ref (bs + 10)]) := by rfl
theorem tg_8 {bs : Nat} {y : Y3} : cE bs y zI zJ 8 = .inl (y.1, 32, .inl (fun _ => 0)) := by rfl
theorem tg_9 {bs : Nat} {y : Y3} : cE bs y zI zJ 9 = .inl (y.1, 32, .inl (fun _ => 0)) := by rfl
theorem tg_10 {bs : Nat} {y : Y3} : cE bs y zI zJ 10 = .inl (y.2.1, 1280, .inr (.inl (fun _ => 0))) := by rfl
theorem tg_11 {bs : Nat} {y : Y3} : cE bs y zI zJ 11 = .inr (7, [.int 0, .int 0, .ref (bs + 12), .ref (bs + 13), .ref (bs + 14), .ref (bs + 15), .int 0]) := by rfl
theorem tg_12 {bs : Nat} {y : Y3} : cE bs y zI zJ 12 = .inl (y.1, 32, .inl (fun _ => 0)) := by rfl
theorem tg_13 {bs : Nat} {y : Y3} : cE bs y zI zJ 13 = .inl (y.1, 32, .inl (fun _ => 0)) := by rfl
theorem tg_14 {bs : Nat} {y : Y3} : cE bs y zI zJ 14 = .inl (y.1, 128, .inl (fun _ => 0)) := by rfl
theorem tg_15 {bs : Nat} {y : Y3} : cE bs y zI zJ 15 = .inl (y.1, 32, .inl (fun _ => 0)) := by rfl
theorem tg_16 {bs : Nat} {y : Y3} : cE bs y zI zJ 16 = .inr (2, [.int 0, .int 0, .int 0, .ref (bs + 17), .ref (bs + 18), .ref (bs + 19), .ref (bs + 20), .ref (bs + 21), .int 0, .long 0]) := by rfl
theorem tg_17 {bs : Nat} {y : Y3} : cE bs y zI zJ 17 = .inl (y.1, 36, .inl (fun _ => 0)) := by rfl
theorem tg_18 {bs : Nat} {y : Y3} : cE bs y zI zJ 18 = .inl (y.1, 36, .inl (fun _ => 0)) := by rfl
theorem tg_19 {bs : Nat} {y : Y3} : cE bs y zI zJ 19 = .inl (y.1, 60, .inl (fun _ => 0)) := by rfl
theorem tg_20 {bs : Nat} {y : Y3} : cE bs y zI zJ 20 = .inl (y.1, 60, .inl (fun _ => 0)) := by rfl
theorem tg_21 {bs : Nat} {y : Y3} : cE bs y zI zJ 21 = .inl (y.1, 144, .inl (fun _ => 0)) := by rfl
theorem tg_22 {bs : Nat} {y : Y3} : cE bs y zI zJ 22 = .inr (5, [.int 0, .int 0, .ref (bs + 23), .ref (bs + 24), .ref (bs + 25), .ref (bs + 26), .ref (bs + 27)]) := by rfl
theorem tg_23 {bs : Nat} {y : Y3} : cE bs y zI zJ 23 = .inl (y.1, 32, .inl (fun _ => 0)) := by rfl
theorem tg_24 {bs : Nat} {y : Y3} : cE bs y zI zJ 24 = .inl (y.1, 32, .inl (fun _ => 0)) := by rfl
theorem tg_25 {bs : Nat} {y : Y3} : cE bs y zI zJ 25 = .inl (y.1, 36, .inl (fun _ => 0)) := by rfl
theorem tg_26 {bs : Nat} {y : Y3} : cE bs y zI zJ 26 = .inl (y.1, 32, .inl (fun _ => 0)) := by rfl
theorem tg_27 {bs : Nat} {y : Y3} : cE bs y zI zJ 27 = .inl (y.1, 32, .inl (fun _ => 0)) := by rfl
theorem tg_28 {bs : Nat} {y : Y3} : cE bs y zI zJ 28 = .inr (8, [.int 0, .ref (bs + 29), .ref (bs + 30), .ref (bs + 31), .ref (bs + 32), .ref (bs + 33)]) := by rfl
theorem tg_29 {bs : Nat} {y : Y3} : cE bs y zI zJ 29 = .inl (y.1, 60, .inl (fun _ => 0)) := by rfl
theorem tg_30 {bs : Nat} {y : Y3} : cE bs y zI zJ 30 = .inl (y.1, 60, .inl (fun _ => 0)) := by rfl
theorem tg_31 {bs : Nat} {y : Y3} : cE bs y zI zJ 31 = .inl (y.2.1, 32, .inr (.inl (fun _ => 0))) := by rfl
theorem tg_32 {bs : Nat} {y : Y3} : cE bs y zI zJ 32 = .inl (y.1, 60, .inl (fun _ => 0)) := by rfl
theorem tg_33 {bs : Nat} {y : Y3} : cE bs y zI zJ 33 = .inl (y.1, 36, .inl (fun _ => 0)) := by rfl
theorem tg_34 {bs : Nat} {y : Y3} : cE bs y zI zJ 34 = .inr (1, [.int 0, .int 0, .ref (bs + 35), .ref (bs + 36), .ref (bs + 37)]) := by rfl
theorem tg_35 {bs : Nat} {y : Y3} : cE bs y zI zJ 35 = .inl (y.1, 324, .inl (fun _ => 0)) := by rfl
theorem tg_36 {bs : Nat} {y : Y3} : cE bs y zI zJ 36 = .inl (y.1, 37, .inl (fun _ => 0)) := by rfl
theorem tg_37 {bs : Nat} {y : Y3} : cE bs y zI zJ 37 = .inl (y.1, 32, .inl (fun _ => 0)) := by rfl
theorem tg_38 {bs : Nat} {y : Y3} : cE bs y zI zJ 38 = .inr (6, [.int 0, .int 0, .int 0, .int 0, .ref (bs + 39), .ref (bs + 40)]) := by rfl
theorem tg_39 {bs : Nat} {y : Y3} : cE bs y zI zJ 39 = .inl (y.1, 32, .inl (fun _ => 0)) := by rfl
theorem tg_40 {bs : Nat} {y : Y3} : cE bs y zI zJ 40 = .inl (y.1, 32, .inl (fun _ => 0)) := by rfl
theorem tg_41 {bs : Nat} {y : Y3} : cE bs y zI zJ 41 = .inr (4, [.int 0, .int 0, .ref (bs + 42)]) := by rfl
theorem tg_42 {bs : Nat} {y : Y3} : cE bs y zI zJ 42 = .inl (y.1, 37, .inl (fun _ => 0)) := by rfl
theorem tg_43 {bs : Nat} {y : Y3} : cE bs y zI zJ 43 = .inl (y.1, 7, .inl (fun _ => 0)) := by rfl
theorem tg_44 {bs : Nat} {y : Y3} {J : MJ} : cE bs y iniM J 44 = .inr (10, [.ref (bs + 45), .ref (bs + 46), .ref (bs + 47), .ref (bs + 48), .ref (bs + 49), .ref (bs + 50), .int 0, .int 0, .int 0, .int 0, .ref (bs + 51), .int 0, .int 0, .int 0, .int 0, .int 0, .ref (bs + 52), .ref (bs + 53), .ref (bs + 54), .ref (bs + 55), .ref (bs + 56), .ref (bs + 57), .ref (bs + 58), .ref (bs + 59), .int (3), .int (3), .int (2), .int (2), .ref (bs + 60), .ref (bs + 61), .ref (bs + 62), .ref (bs + 63), .ref (bs + 64), .ref (bs + 65), .ref (bs + 66), .ref (bs + 67), .ref (bs + 68), .ref (bs + 69), .ref (bs + 70), .ref (bs + 71), .ref (bs + 72), .ref (bs + 73), .int 0, .int 0, .int 0, .int (-1), .ref (bs + 74), .ref (bs + 75), .int (-1)]) := by rfl
theorem tg_45 {bs : Nat} {y : Y3} {J : MJ} : cE bs y iniM J 45 = .inl (y.1, 32, .inl (fun _ => 0)) := by rfl
theorem tg_46 {bs : Nat} {y : Y3} {J : MJ} : cE bs y iniM J 46 = .inl (y.1, 32, .inl (fun _ => 0)) := by rfl
theorem tg_47 {bs : Nat} {y : Y3} {J : MJ} : cE bs y iniM J 47 = .inl (y.1, 32, .inl (fun _ => 0)) := by rfl
theorem tg_48 {bs : Nat} {y : Y3} {J : MJ} : cE bs y iniM J 48 = .inl (y.1, 32, .inl (fun _ => 0)) := by rfl
theorem tg_49 {bs : Nat} {y : Y3} {J : MJ} : cE bs y iniM J 49 = .inl (y.2.2.1, 32, .inl (fun _ => 0)) := by rfl
theorem tg_50 {bs : Nat} {y : Y3} {J : MJ} : cE bs y iniM J 50 = .inl (y.1, 8, .inl (fun _ => 0)) := by rfl
theorem tg_51 {bs : Nat} {y : Y3} {J : MJ} : cE bs y iniM J 51 = .inl (y.1, 9, .inl (fun _ => 0)) := by rfl
theorem tg_52 {bs : Nat} {y : Y3} {J : MJ} : cE bs y iniM J 52 = .inl (y.1, 1280, .inl (fun _ => 0)) := by rfl
theorem tg_53 {bs : Nat} {y : Y3} {J : MJ} : cE bs y iniM J 53 = .inl (y.1, 32, .inl (fun _ => 0)) := by rfl
theorem tg_54 {bs : Nat} {y : Y3} {J : MJ} : cE bs y iniM J 54 = .inl (y.1, 32, .inl (fun _ => 0)) := by rfl
theorem tg_55 {bs : Nat} {y : Y3} {J : MJ} : cE bs y iniM J 55 = .inl (y.2.2.1, 32, .inl (fun _ => 0)) := by rfl
theorem tg_56 {bs : Nat} {y : Y3} {J : MJ} : cE bs y iniM J 56 = .inl (y.1, 128, .inl (fun _ => 0)) := by rfl
theorem tg_57 {bs : Nat} {y : Y3} {J : MJ} : cE bs y iniM J 57 = .inl (y.1, 32, .inl (fun _ => 0)) := by rfl
theorem tg_58 {bs : Nat} {y : Y3} {J : MJ} : cE bs y iniM J 58 = .inl (y.1, 32, .inl (fun _ => 0)) := by rfl
theorem tg_59 {bs : Nat} {y : Y3} {J : MJ} : cE bs y iniM J 59 = .inl (y.2.2.1, 32, .inl (fun _ => 0)) := by rfl
theorem tg_60 {bs : Nat} {y : Y3} {J : MJ} : cE bs y iniM J 60 = .inl (y.2.2.1, 36, .inl (fun _ => 0)) := by rfl
theorem tg_61 {bs : Nat} {y : Y3} {J : MJ} : cE bs y iniM J 61 = .inl (y.1, 32, .inl (fun _ => 0)) := by rfl
theorem tg_62 {bs : Nat} {y : Y3} {J : MJ} : cE bs y iniM J 62 = .inl (y.2.2.1, 1920, .inl (fun _ => 0)) := by rfl
theorem tg_63 {bs : Nat} {y : Y3} {J : MJ} : cE bs y iniM J 63 = .inl (y.1, 60, .inl (fun _ => 0)) := by rfl
theorem tg_64 {bs : Nat} {y : Y3} {J : MJ} : cE bs y iniM J 64 = .inl (y.1, 60, .inl (fun _ => 0)) := by rfl
theorem tg_65 {bs : Nat} {y : Y3} {J : MJ} : cE bs y iniM J 65 = .inl (y.1, 36, .inl (fun _ => 0)) := by rfl
theorem tg_66 {bs : Nat} {y : Y3} {J : MJ} : cE bs y iniM J 66 = .inl (y.2.2.1, 36, .inl (fun _ => 0)) := by rfl
theorem tg_67 {bs : Nat} {y : Y3} {J : MJ} : cE bs y iniM J 67 = .inl (y.1, 60, .inl (fun _ => 0)) := by rfl
theorem tg_68 {bs : Nat} {y : Y3} {J : MJ} : cE bs y iniM J 68 = .inl (y.1, 1440, .inl (fun _ => 0)) := by rfl
theorem tg_69 {bs : Nat} {y : Y3} {J : MJ} : cE bs y iniM J 69 = .inl (y.1, 36, .inl (fun _ => 0)) := by rfl
theorem tg_70 {bs : Nat} {y : Y3} {J : MJ} : cE bs y iniM J 70 = .inl (y.1, 32, .inl (fun _ => 0)) := by rfl
theorem tg_71 {bs : Nat} {y : Y3} {J : MJ} : cE bs y iniM J 71 = .inl (y.2.2.1, 32, .inl (fun _ => 0)) := by rfl
theorem tg_72 {bs : Nat} {y : Y3} {J : MJ} : cE bs y iniM J 72 = .inl (y.2.2.1, 32, .inl (fun _ => 0)) := by rfl
theorem tg_73 {bs : Nat} {y : Y3} {J : MJ} : cE bs y iniM J 73 = .inl (y.2.2.1, 32, .inl (fun _ => 0)) := by rfl
theorem tg_74 {bs : Nat} {y : Y3} {J : MJ} : cE bs y iniM J 74 = .inl (y.1, 40, .inl (fun _ => 0)) := by rfl
theorem tg_75 {bs : Nat} {y : Y3} {J : MJ} : cE bs y iniM J 75 = .inl (y.1, 40, .inl (fun _ => 0)) := by rfl
theorem ok_X3_init : okC yX3_init cX3_init 1 none 0 := ⟨gtb_mem (List.mem_append_right _ (List.mem_of_getElem? (i := 28) (by decide +kernel))) rfl, gtb_mem (List.mem_append_right _ (List.mem_of_getElem? (i := 2) (by decide +kernel))) rfl, by decide +kernel⟩
theorem oi_X3_init : Cond.instanceMethod yX3_init ∈ gtb := gtb_mem (List.mem_append_right _ (List.mem_of_getElem? (i := 27) (by decide +kernel))) rfl
theorem dX3_init_0 : decode cX3_init 0 = .ok (.aload_n 0, 1) := by decide +kernel
theorem dX3_init_1 : decode cX3_init 1 = .ok (.invokespecial 3, 3) := by decide +kernel
theorem dX3_init_4 : decode cX3_init 4 = .ok (.aload_n 0, 1) := by decide +kernel
theorem dX3_init_5 : decode cX3_init 5 = .ok (.bipush 32, 2) := by decide +kernel
theorem dX3_init_7 : decode cX3_init 7 = .ok (.newarray .int, 2) := by decide +kernel
theorem dX3_init_9 : decode cX3_init 9 = .ok (.putfield 9, 3) := by decide +kernel
theorem dX3_init_12 : decode cX3_init 12 = .ok (.aload_n 0, 1) := by decide +kernel
theorem dX3_init_13 : decode cX3_init 13 = .ok (.bipush 32, 2) := by decide +kernel
theorem dX3_init_15 : decode cX3_init 15 = .ok (.newarray .int, 2) := by decide +kernel
theorem dX3_init_17 : decode cX3_init 17 = .ok (.putfield 15, 3) := by decide +kernel
theorem dX3_init_20 : decode cX3_init 20 = .ok (.aload_n 0, 1) := by decide +kernel
theorem dX3_init_21 : decode cX3_init 21 = .ok (.bipush 32, 2) := by decide +kernel
theorem dX3_init_23 : decode cX3_init 23 = .ok (.newarray .int, 2) := by decide +kernel
theorem dX3_init_25 : decode cX3_init 25 = .ok (.putfield 18, 3) := by decide +kernel
theorem dX3_init_28 : decode cX3_init 28 = .ok (.aload_n 0, 1) := by decide +kernel
theorem dX3_init_29 : decode cX3_init 29 = .ok (.bipush 32, 2) := by decide +kernel
theorem dX3_init_31 : decode cX3_init 31 = .ok (.newarray .int, 2) := by decide +kernel
theorem dX3_init_33 : decode cX3_init 33 = .ok (.putfield 21, 3) := by decide +kernel
theorem dX3_init_36 : decode cX3_init 36 = .ok (.aload_n 0, 1) := by decide +kernel
theorem dX3_init_37 : decode cX3_init 37 = .ok (.bipush 8, 2) := by decide +kernel
theorem dX3_init_39 : decode cX3_init 39 = .ok (.newarray .int, 2) := by decide +kernel
theorem dX3_init_41 : decode cX3_init 41 = .ok (.putfield 24, 3) := by decide +kernel
theorem dX3_init_44 : decode cX3_init 44 = .ok (.return_, 1) := by decide +kernel
theorem ml_244 : Cond.methodLink RX3 3 objectInit ∈ gtb := gtb_mem (List.mem_append_right _ (List.mem_of_getElem? (i := 29) (by decide +kernel))) rfl
set_option maxHeartbeats 4000000 in
set_option maxRecDepth 100000 in
theorem iX3_init_ (l : Launch) (bs : Nat) (D : va_G) (y : Y3) (C : CW) (hO : C 1 = .inr (3, [.null, .null, .null, .null, .null, .int 0, .int 0, .int 0, .int 0, .int 0, .int 0])) : Met l yX3_init (.code yX3_init cX3_init 1 none :: gtb) ({ frames := 1, cells := 5, slots := 136, locals := 20 } : Room) (va_Pc [.ref (bs + 1)] (HC bs D y 2 C)) (va_Qv (fun C1 => (∀ a, a < 2 → a ≠ 1 → C1 a = C a) ∧ ∀ a, (a = 1 ∨ (2 ≤ a ∧ a < 7)) → C1 a = cE bs y zI zJ a) (fun C1 t => HC bs D y 7 C1 t) (FA bs)) 5 136 (FA bs) := by
  refine Met.ofW (cc := cX3_init) (maxL := 1) (ret := none) (by decide) rfl ?_
  intro p e s m args below meth c s₁ B hml hv
  obtain ⟨rfl, hz, hP, hK, hN, hL⟩ := hv
  have hx := B.exec
  have hb := B.bytes
  have hr := B.returns
  have hts0 := atoms_spec (ws := .code yX3_init cX3_init 1 none :: gtb) B.pre
  have hts : ∀ w ∈ gtb, w.before [.ref (bs + 1)].toArray s = true := fun w hw => hts0 w (List.mem_cons_of_mem _ hw)
  have hown : s.vm.findClass RX3 = some m.cls := findClass_of_methodNamed B.named
  have hlocks := B.notSynchronized
  have hin2 : meth.name = "<init>" := (name_of_methodNamed B.named B.method).1
  have hS : va_S (FA bs) s.heap s.heap [] := va_S.rf
  have hl := lv_entry [.ref (bs + 1)] (n := 1) (Nat.le_of_ble_eq_true rfl)
  rw [lg_entry_eq]
  generalize (lg_sl [.ref (bs + 1)] ++ List.replicate (1 - (lg_sl [.ref (bs + 1)]).length) Slot.unset).toArray = ls at hl ⊢
  have hl : lv_has ls 1 [(0, .ref (bs + 1))] := hl
  change W p l e ({ frames := 1, cells := 5, slots := 136, locals := 20 } : Room) s m [.ref (bs + 1)].toArray below meth c s.heap [] 0 0 _ (F0 m 0 ls [])
  refine lv_aload_n hx hb dX3_init_0 rfl (lv_at hl 0 rfl) ?_
  refine W.objInit hx hb hown (hts _ ml_244) (hts _ oi_inst) (hts _ oi_code) rfl (by rw [hml]; exact hl.1) rfl dX3_init_1 (Nat.le_of_ble_eq_true rfl) (Nat.le_of_ble_eq_true rfl) ?_
  refine W.eq (g2 := F0 m 4 ls []) rfl ?_
  refine lv_aload_n hx hb dX3_init_4 rfl (lv_at hl 0 rfl) ?_
  refine lv_bipush (v := (32 : Int32)) hx hb dX3_init_5 (by decide) ?_
  refine n_A (t0 := 0) (ty := .int) (N' := 32) (a0 := (32, .inl (fun _ => 0))) hx hb hts hK hP hz hS ac_int rfl rfl (fun _ => rfl) (fun _ => rfl) (by decide) rfl (by decide) (Nat.le_of_ble_eq_true rfl) (Nat.le_of_ble_eq_true rfl) dX3_init_7 (fun H hP hz hS => ?_)
  obtain ⟨C1, eC1⟩ : ∃ z : CW, z = cset C 2 (.inl (y.1, 32, .inl (fun _ => 0))) := ⟨_, rfl⟩
  have hP : va_P D vwCl (wc bs 3 C1) H := by rw [eC1]; exact hP
  have hO : C1 1 = .inr (3, [.null, .null, .null, .null, .null, .int 0, .int 0, .int 0, .int 0, .int 0, .int 0]) := by rw [eC1, cset_ne (by decide)]; exact hO
  refine W.eq (g2 := F0 m 9 ls [.ref (bs + 2), .ref (bs + 1)]) rfl ?_
  refine W.widen (k := 1) (n := 32) (by omega) (by omega) ?_
  refine p_F (K := RX3) (T := TX3) (N := 11) (ci := 3) (ty := .array .int) 1 0 tyX3 hx hb hts hown hin2 hK hP hz hS in_X3 tyX3_ok nmX3 rfl (by decide) hO (by decide) fl_31 rfl rfl (by decide +kernel) rfl rfl (Nat.le_of_ble_eq_true rfl) dX3_init_9 (fun H locs hP hz hS => ?_)
  obtain ⟨C2, eC2⟩ : ∃ z : CW, z = cset C1 1 (.inr (3, [.ref (bs + 2), .null, .null, .null, .null, .int 0, .int 0, .int 0, .int 0, .int 0, .int 0])) := ⟨_, rfl⟩
  have hP : va_P D vwCl (wc bs 3 C2) H := by rw [eC2]; exact hP
  have hO : C2 1 = .inr (3, [.ref (bs + 2), .null, .null, .null, .null, .int 0, .int 0, .int 0, .int 0, .int 0, .int 0]) := by rw [eC2]; exact cset_eq
  refine lv_aload_n hx hb dX3_init_12 rfl (lv_at hl 0 rfl) ?_
  refine lv_bipush (v := (32 : Int32)) hx hb dX3_init_13 (by decide) ?_
  refine n_A (t0 := 0) (ty := .int) (N' := 32) (a0 := (32, .inl (fun _ => 0))) hx hb hts hK hP hz hS ac_int rfl rfl (fun _ => rfl) (fun _ => rfl) (by decide) rfl (by decide) (Nat.le_of_ble_eq_true rfl) (Nat.le_of_ble_eq_true rfl) dX3_init_15 (fun H hP hz hS => ?_)
  obtain ⟨C3, eC3⟩ : ∃ z : CW, z = cset C2 3 (.inl (y.1, 32, .inl (fun _ => 0))) := ⟨_, rfl⟩
  have hP : va_P D vwCl (wc bs 4 C3) H := by rw [eC3]; exact hP
  have hO : C3 1 = .inr (3, [.ref (bs + 2), .null, .null, .null, .null, .int 0, .int 0, .int 0, .int 0, .int 0, .int 0]) := by rw [eC3, cset_ne (by decide)]; exact hO
  refine W.eq (g2 := F0 m 17 ls [.ref (bs + 3), .ref (bs + 1)]) rfl ?_
  refine W.widen (k := 2) (n := 64) (by omega) (by omega) ?_
  refine p_F (K := RX3) (T := TX3) (N := 11) (ci := 3) (ty := .array .int) 1 1 tyX3 hx hb hts hown hin2 hK hP hz hS in_X3 tyX3_ok nmX3 rfl (by decide) hO (by decide) fl_32 rfl rfl (by decide +kernel) rfl rfl (Nat.le_of_ble_eq_true rfl) dX3_init_17 (fun H locs hP hz hS => ?_)
  obtain ⟨C4, eC4⟩ : ∃ z : CW, z = cset C3 1 (.inr (3, [.ref (bs + 2), .ref (bs + 3), .null, .null, .null, .int 0, .int 0, .int 0, .int 0, .int 0, .int 0])) := ⟨_, rfl⟩
  have hP : va_P D vwCl (wc bs 4 C4) H := by rw [eC4]; exact hP
  have hO : C4 1 = .inr (3, [.ref (bs + 2), .ref (bs + 3), .null, .null, .null, .int 0, .int 0, .int 0, .int 0, .int 0, .int 0]) := by rw [eC4]; exact cset_eq
  refine lv_aload_n hx hb dX3_init_20 rfl (lv_at hl 0 rfl) ?_
  refine lv_bipush (v := (32 : Int32)) hx hb dX3_init_21 (by decide) ?_
  refine n_A (t0 := 0) (ty := .int) (N' := 32) (a0 := (32, .inl (fun _ => 0))) hx hb hts hK hP hz hS ac_int rfl rfl (fun _ => rfl) (fun _ => rfl) (by decide) rfl (by decide) (Nat.le_of_ble_eq_true rfl) (Nat.le_of_ble_eq_true rfl) dX3_init_23 (fun H hP hz hS => ?_)
  obtain ⟨C5, eC5⟩ : ∃ z : CW, z = cset C4 4 (.inl (y.1, 32, .inl (fun _ => 0))) := ⟨_, rfl⟩
  have hP : va_P D vwCl (wc bs 5 C5) H := by rw [eC5]; exact hP
  have hO : C5 1 = .inr (3, [.ref (bs + 2), .ref (bs + 3), .null, .null, .null, .int 0, .int 0, .int 0, .int 0, .int 0, .int 0]) := by rw [eC5, cset_ne (by decide)]; exact hO
  refine W.eq (g2 := F0 m 25 ls [.ref (bs + 4), .ref (bs + 1)]) rfl ?_
  refine W.widen (k := 3) (n := 96) (by omega) (by omega) ?_
  refine p_F (K := RX3) (T := TX3) (N := 11) (ci := 3) (ty := .array .int) 1 2 tyX3 hx hb hts hown hin2 hK hP hz hS in_X3 tyX3_ok nmX3 rfl (by decide) hO (by decide) fl_33 rfl rfl (by decide +kernel) rfl rfl (Nat.le_of_ble_eq_true rfl) dX3_init_25 (fun H locs hP hz hS => ?_)
  obtain ⟨C6, eC6⟩ : ∃ z : CW, z = cset C5 1 (.inr (3, [.ref (bs + 2), .ref (bs + 3), .ref (bs + 4), .null, .null, .int 0, .int 0, .int 0, .int 0, .int 0, .int 0])) := ⟨_, rfl⟩
  have hP : va_P D vwCl (wc bs 5 C6) H := by rw [eC6]; exact hP
  have hO : C6 1 = .inr (3, [.ref (bs + 2), .ref (bs + 3), .ref (bs + 4), .null, .null, .int 0, .int 0, .int 0, .int 0, .int 0, .int 0]) := by rw [eC6]; exact cset_eq
  refine lv_aload_n hx hb dX3_init_28 rfl (lv_at hl 0 rfl) ?_
  refine lv_bipush (v := (32 : Int32)) hx hb dX3_init_29 (by decide) ?_
  refine n_A (t0 := 0) (ty := .int) (N' := 32) (a0 := (32, .inl (fun _ => 0))) hx hb hts hK hP hz hS ac_int rfl rfl (fun _ => rfl) (fun _ => rfl) (by decide) rfl (by decide) (Nat.le_of_ble_eq_true rfl) (Nat.le_of_ble_eq_true rfl) dX3_init_31 (fun H hP hz hS => ?_)
  obtain ⟨C7, eC7⟩ : ∃ z : CW, z = cset C6 5 (.inl (y.1, 32, .inl (fun _ => 0))) := ⟨_, rfl⟩
  have hP : va_P D vwCl (wc bs 6 C7) H := by rw [eC7]; exact hP
  have hO : C7 1 = .inr (3, [.ref (bs + 2), .ref (bs + 3), .ref (bs + 4), .null, .null, .int 0, .int 0, .int 0, .int 0, .int 0, .int 0]) := by rw [eC7, cset_ne (by decide)]; exact hO
  refine W.eq (g2 := F0 m 33 ls [.ref (bs + 5), .ref (bs + 1)]) rfl ?_
  refine W.widen (k := 4) (n := 128) (by omega) (by omega) ?_
  refine p_F (K := RX3) (T := TX3) (N := 11) (ci := 3) (ty := .array .int) 1 3 tyX3 hx hb hts hown hin2 hK hP hz hS in_X3 tyX3_ok nmX3 rfl (by decide) hO (by decide) fl_34 rfl rfl (by decide +kernel) rfl rfl (Nat.le_of_ble_eq_true rfl) dX3_init_33 (fun H locs hP hz hS => ?_)
  obtain ⟨C8, eC8⟩ : ∃ z : CW, z = cset C7 1 (.inr (3, [.ref (bs + 2), .ref (bs + 3), .ref (bs + 4), .ref (bs + 5), .null, .int 0, .int 0, .int 0, .int 0, .int 0, .int 0])) := ⟨_, rfl⟩
  have hP : va_P D vwCl (wc bs 6 C8) H := by rw [eC8]; exact hP
  have hO : C8 1 = .inr (3, [.ref (bs + 2), .ref (bs + 3), .ref (bs + 4), .ref (bs + 5), .null, .int 0, .int 0, .int 0, .int 0, .int 0, .int 0]) := by rw [eC8]; exact cset_eq
  refine lv_aload_n hx hb dX3_init_36 rfl (lv_at hl 0 rfl) ?_
  refine lv_bipush (v := (8 : Int32)) hx hb dX3_init_37 (by decide) ?_
  refine n_A (t0 := 0) (ty := .int) (N' := 8) (a0 := (8, .inl (fun _ => 0))) hx hb hts hK hP hz hS ac_int rfl rfl (fun _ => rfl) (fun _ => rfl) (by decide) rfl (by decide) (Nat.le_of_ble_eq_true rfl) (Nat.le_of_ble_eq_true rfl) dX3_init_39 (fun H hP hz hS => ?_)
  obtain ⟨C9, eC9⟩ : ∃ z : CW, z = cset C8 6 (.inl (y.1, 8, .inl (fun _ => 0))) := ⟨_, rfl⟩
  have hP : va_P D vwCl (wc bs 7 C9) H := by rw [eC9]; exact hP
  have hO : C9 1 = .inr (3, [.ref (bs + 2), .ref (bs + 3), .ref (bs + 4), .ref (bs + 5), .null, .int 0, .int 0, .int 0, .int 0, .int 0, .int 0]) := by rw [eC9, cset_ne (by decide)]; exact hO
  refine W.eq (g2 := F0 m 41 ls [.ref (bs + 6), .ref (bs + 1)]) rfl ?_
  refine W.widen (k := 5) (n := 136) (by omega) (by omega) ?_
  refine p_F (K := RX3) (T := TX3) (N := 11) (ci := 3) (ty := .array .int) 1 4 tyX3 hx hb hts hown hin2 hK hP hz hS in_X3 tyX3_ok nmX3 rfl (by decide) hO (by decide) fl_39 rfl rfl (by decide +kernel) rfl rfl (Nat.le_of_ble_eq_true rfl) dX3_init_41 (fun H locs hP hz hS => ?_)
  obtain ⟨C10, eC10⟩ : ∃ z : CW, z = cset C9 1 (.inr (3, [.ref (bs + 2), .ref (bs + 3), .ref (bs + 4), .ref (bs + 5), .ref (bs + 6), .int 0, .int 0, .int 0, .int 0, .int 0, .int 0])) := ⟨_, rfl⟩
  have hP : va_P D vwCl (wc bs 7 C10) H := by rw [eC10]; exact hP
  have hO : C10 1 = .inr (3, [.ref (bs + 2), .ref (bs + 3), .ref (bs + 4), .ref (bs + 5), .ref (bs + 6), .int 0, .int 0, .int 0, .int 0, .int 0, .int 0]) := by rw [eC10]; exact cset_eq
  refine r_C hx hb hr hlocks hP hz hK hN hL hS ⟨fun a h1 h2 => ?_, fun a h1 => ?_⟩ dX3_init_44
  · rw [eC10, cset_ne (show a ≠ 1 by omega), eC9, cset_ne (show a ≠ 6 by omega), eC8, cset_ne (show a ≠ 1 by omega), eC7, cset_ne (show a ≠ 5 by omega), eC6, cset_ne (show a ≠ 1 by omega), eC5, cset_ne (show a ≠ 4 by omega), eC4, cset_ne (show a ≠ 1 by omega), eC3, cset_ne (show a ≠ 3 by omega), eC2, cset_ne (show a ≠ 1 by omega), eC1, cset_ne (show a ≠ 2 by omega)]
  · have h3 : a = 1 ∨ a = 2 ∨ a = 3 ∨ a = 4 ∨ a = 5 ∨ a = 6 := by omega
    rcases h3 with rfl | rfl | rfl | rfl | rfl | rfl
    · exact hO.trans tg_1.symm
    · rw [eC10, cset_ne (by decide), eC9, cset_ne (by decide), eC8, cset_ne (by decide), eC7, cset_ne (by decide), eC6, cset_ne (by decide), eC5, cset_ne (by decide), eC4, cset_ne (by decide), eC3, cset_ne (by decide), eC2, cset_ne (by decide), eC1, cset_eq]; exact tg_2.symm
    · rw [eC10, cset_ne (by decide), eC9, cset_ne (by decide), eC8, cset_ne (by decide), eC7, cset_ne (by decide), eC6, cset_ne (by decide), eC5, cset_ne (by decide), eC4, cset_ne (by decide), eC3, cset_eq]; exact tg_3.symm
    · rw [eC10, cset_ne (by decide), eC9, cset_ne (by decide), eC8, cset_ne (by decide), eC7, cset_ne (by decide), eC6, cset_ne (by decide), eC5, cset_eq]; exact tg_4.symm
    · rw [eC10, cset_ne (by decide), eC9, cset_ne (by decide), eC8, cset_ne (by decide), eC7, cset_eq]; exact tg_5.symm
    · rw [eC10, cset_ne (by decide), eC9, cset_eq]; exact tg_6.symm
theorem ok_X0_init : okC yX0_init cX0_init 1 none 0 := ⟨gtb_mem (List.mem_append_right _ (List.mem_of_getElem? (i := 95) (by decide +kernel))) rfl, gtb_mem (List.mem_append_right _ (List.mem_of_getElem? (i := 3) (by decide +kernel))) rfl, by decide +kernel⟩
theorem oi_X0_init : Cond.instanceMethod yX0_init ∈ gtb := gtb_mem (List.mem_append_right _ (List.mem_of_getElem? (i := 94) (by decide +kernel))) rfl
theorem dX0_init_0 : decode cX0_init 0 = .ok (.aload_n 0, 1) := by decide +kernel
theorem dX0_init_1 : decode cX0_init 1 = .ok (.invokespecial 3, 3) := by decide +kernel
theorem dX0_init_4 : decode cX0_init 4 = .ok (.aload_n 0, 1) := by decide +kernel
theorem dX0_init_5 : decode cX0_init 5 = .ok (.bipush 32, 2) := by decide +kernel
theorem dX0_init_7 : decode cX0_init 7 = .ok (.newarray .int, 2) := by decide +kernel
theorem dX0_init_9 : decode cX0_init 9 = .ok (.putfield 9, 3) := by decide +kernel
theorem dX0_init_12 : decode cX0_init 12 = .ok (.aload_n 0, 1) := by decide +kernel
theorem dX0_init_13 : decode cX0_init 13 = .ok (.bipush 32, 2) := by decide +kernel
theorem dX0_init_15 : decode cX0_init 15 = .ok (.newarray .int, 2) := by decide +kernel
theorem dX0_init_17 : decode cX0_init 17 = .ok (.putfield 15, 3) := by decide +kernel
theorem dX0_init_20 : decode cX0_init 20 = .ok (.aload_n 0, 1) := by decide +kernel
theorem dX0_init_21 : decode cX0_init 21 = .ok (.sipush 1280, 3) := by decide +kernel
theorem dX0_init_24 : decode cX0_init 24 = .ok (.newarray .long, 2) := by decide +kernel
theorem dX0_init_26 : decode cX0_init 26 = .ok (.putfield 18, 3) := by decide +kernel
theorem dX0_init_29 : decode cX0_init 29 = .ok (.return_, 1) := by decide +kernel
theorem ml_245 : Cond.methodLink RX0 3 objectInit ∈ gtb := gtb_mem (List.mem_append_right _ (List.mem_of_getElem? (i := 96) (by decide +kernel))) rfl
set_option maxHeartbeats 4000000 in
set_option maxRecDepth 100000 in
theorem iX0_init_ (l : Launch) (bs : Nat) (D : va_G) (y : Y3) (C : CW) (hO : C 7 = .inr (0, [.null, .null, .null])) : Met l yX0_init (.code yX0_init cX0_init 1 none :: gtb) ({ frames := 1, cells := 3, slots := 1344, locals := 20 } : Room) (va_Pc [.ref (bs + 7)] (HC bs D y 8 C)) (va_Qv (fun C1 => (∀ a, a < 8 → a ≠ 7 → C1 a = C a) ∧ ∀ a, (a = 7 ∨ (8 ≤ a ∧ a < 11)) → C1 a = cE bs y zI zJ a) (fun C1 t => HC bs D y 11 C1 t) (FA bs)) 3 1344 (FA bs) := by
  refine Met.ofW (cc := cX0_init) (maxL := 1) (ret := none) (by decide) rfl ?_
  intro p e s m args below meth c s₁ B hml hv
  obtain ⟨rfl, hz, hP, hK, hN, hL⟩ := hv
  have hx := B.exec
  have hb := B.bytes
  have hr := B.returns
  have hts0 := atoms_spec (ws := .code yX0_init cX0_init 1 none :: gtb) B.pre
  have hts : ∀ w ∈ gtb, w.before [.ref (bs + 7)].toArray s = true := fun w hw => hts0 w (List.mem_cons_of_mem _ hw)
  have hown : s.vm.findClass RX0 = some m.cls := findClass_of_methodNamed B.named
  have hlocks := B.notSynchronized
  have hin2 : meth.name = "<init>" := (name_of_methodNamed B.named B.method).1
  have hS : va_S (FA bs) s.heap s.heap [] := va_S.rf
  have hl := lv_entry [.ref (bs + 7)] (n := 1) (Nat.le_of_ble_eq_true rfl)
  rw [lg_entry_eq]
  generalize (lg_sl [.ref (bs + 7)] ++ List.replicate (1 - (lg_sl [.ref (bs + 7)]).length) Slot.unset).toArray = ls at hl ⊢
  have hl : lv_has ls 1 [(0, .ref (bs + 7))] := hl
  change W p l e ({ frames := 1, cells := 3, slots := 1344, locals := 20 } : Room) s m [.ref (bs + 7)].toArray below meth c s.heap [] 0 0 _ (F0 m 0 ls [])
  refine lv_aload_n hx hb dX0_init_0 rfl (lv_at hl 0 rfl) ?_
  refine W.objInit hx hb hown (hts _ ml_245) (hts _ oi_inst) (hts _ oi_code) rfl (by rw [hml]; exact hl.1) rfl dX0_init_1 (Nat.le_of_ble_eq_true rfl) (Nat.le_of_ble_eq_true rfl) ?_
  refine W.eq (g2 := F0 m 4 ls []) rfl ?_
  refine lv_aload_n hx hb dX0_init_4 rfl (lv_at hl 0 rfl) ?_
  refine lv_bipush (v := (32 : Int32)) hx hb dX0_init_5 (by decide) ?_
  refine n_A (t0 := 0) (ty := .int) (N' := 32) (a0 := (32, .inl (fun _ => 0))) hx hb hts hK hP hz hS ac_int rfl rfl (fun _ => rfl) (fun _ => rfl) (by decide) rfl (by decide) (Nat.le_of_ble_eq_true rfl) (Nat.le_of_ble_eq_true rfl) dX0_init_7 (fun H hP hz hS => ?_)
  obtain ⟨C1, eC1⟩ : ∃ z : CW, z = cset C 8 (.inl (y.1, 32, .inl (fun _ => 0))) := ⟨_, rfl⟩
  have hP : va_P D vwCl (wc bs 9 C1) H := by rw [eC1]; exact hP
  have hO : C1 7 = .inr (0, [.null, .null, .null]) := by rw [eC1, cset_ne (by decide)]; exact hO
  refine W.eq (g2 := F0 m 9 ls [.ref (bs + 8), .ref (bs + 7)]) rfl ?_
  refine W.widen (k := 1) (n := 32) (by omega) (by omega) ?_
  refine p_F (K := RX0) (T := TX0) (N := 3) (ci := 0) (ty := .array .int) 7 0 tyX0 hx hb hts hown hin2 hK hP hz hS in_X0 tyX0_ok nmX0 rfl (by decide) hO (by decide) fl_0 rfl rfl (by decide +kernel) rfl rfl (Nat.le_of_ble_eq_true rfl) dX0_init_9 (fun H locs hP hz hS => ?_)
  obtain ⟨C2, eC2⟩ : ∃ z : CW, z = cset C1 7 (.inr (0, [.ref (bs + 8), .null, .null])) := ⟨_, rfl⟩
  have hP : va_P D vwCl (wc bs 9 C2) H := by rw [eC2]; exact hP
  have hO : C2 7 = .inr (0, [.ref (bs + 8), .null, .null]) := by rw [eC2]; exact cset_eq
  refine lv_aload_n hx hb dX0_init_12 rfl (lv_at hl 0 rfl) ?_
  refine lv_bipush (v := (32 : Int32)) hx hb dX0_init_13 (by decide) ?_
  refine n_A (t0 := 0) (ty := .int) (N' := 32) (a0 := (32, .inl (fun _ => 0))) hx hb hts hK hP hz hS ac_int rfl rfl (fun _ => rfl) (fun _ => rfl) (by decide) rfl (by decide) (Nat.le_of_ble_eq_true rfl) (Nat.le_of_ble_eq_true rfl) dX0_init_15 (fun H hP hz hS => ?_)
  obtain ⟨C3, eC3⟩ : ∃ z : CW, z = cset C2 9 (.inl (y.1, 32, .inl (fun _ => 0))) := ⟨_, rfl⟩
  have hP : va_P D vwCl (wc bs 10 C3) H := by rw [eC3]; exact hP
  have hO : C3 7 = .inr (0, [.ref (bs + 8), .null, .null]) := by rw [eC3, cset_ne (by decide)]; exact hO
  refine W.eq (g2 := F0 m 17 ls [.ref (bs + 9), .ref (bs + 7)]) rfl ?_
  refine W.widen (k := 2) (n := 64) (by omega) (by omega) ?_
  refine p_F (K := RX0) (T := TX0) (N := 3) (ci := 0) (ty := .array .int) 7 1 tyX0 hx hb hts hown hin2 hK hP hz hS in_X0 tyX0_ok nmX0 rfl (by decide) hO (by decide) fl_1 rfl rfl (by decide +kernel) rfl rfl (Nat.le_of_ble_eq_true rfl) dX0_init_17 (fun H locs hP hz hS => ?_)
  obtain ⟨C4, eC4⟩ : ∃ z : CW, z = cset C3 7 (.inr (0, [.ref (bs + 8), .ref (bs + 9), .null])) := ⟨_, rfl⟩
  have hP : va_P D vwCl (wc bs 10 C4) H := by rw [eC4]; exact hP
  have hO : C4 7 = .inr (0, [.ref (bs + 8), .ref (bs + 9), .null]) := by rw [eC4]; exact cset_eq
  refine lv_aload_n hx hb dX0_init_20 rfl (lv_at hl 0 rfl) ?_
  refine lv_sipush (v := (1280 : Int32)) hx hb dX0_init_21 (by decide) ?_
  refine n_A (t0 := 1) (ty := .long) (N' := 1280) (a0 := (1280, .inr (.inl (fun _ => 0)))) hx hb hts hK hP hz hS ac_long rfl rfl (fun _ => rfl) (fun _ => rfl) (by decide) rfl (by decide) (Nat.le_of_ble_eq_true rfl) (Nat.le_of_ble_eq_true rfl) dX0_init_24 (fun H hP hz hS => ?_)
  obtain ⟨C5, eC5⟩ : ∃ z : CW, z = cset C4 10 (.inl (y.2.1, 1280, .inr (.inl (fun _ => 0)))) := ⟨_, rfl⟩
  have hP : va_P D vwCl (wc bs 11 C5) H := by rw [eC5]; exact hP
  have hO : C5 7 = .inr (0, [.ref (bs + 8), .ref (bs + 9), .null]) := by rw [eC5, cset_ne (by decide)]; exact hO
  refine W.eq (g2 := F0 m 26 ls [.ref (bs + 10), .ref (bs + 7)]) rfl ?_
  refine W.widen (k := 3) (n := 1344) (by omega) (by omega) ?_
  refine p_F (K := RX0) (T := TX0) (N := 3) (ci := 0) (ty := .array .long) 7 2 tyX0 hx hb hts hown hin2 hK hP hz hS in_X0 tyX0_ok nmX0 rfl (by decide) hO (by decide) fl_2 rfl rfl (by decide +kernel) rfl rfl (Nat.le_of_ble_eq_true rfl) dX0_init_26 (fun H locs hP hz hS => ?_)
  obtain ⟨C6, eC6⟩ : ∃ z : CW, z = cset C5 7 (.inr (0, [.ref (bs + 8), .ref (bs + 9), .ref (bs + 10)])) := ⟨_, rfl⟩
  have hP : va_P D vwCl (wc bs 11 C6) H := by rw [eC6]; exact hP
  have hO : C6 7 = .inr (0, [.ref (bs + 8), .ref (bs + 9), .ref (bs + 10)]) := by rw [eC6]; exact cset_eq
  refine r_C hx hb hr hlocks hP hz hK hN hL hS ⟨fun a h1 h2 => ?_, fun a h1 => ?_⟩ dX0_init_29
  · rw [eC6, cset_ne (show a ≠ 7 by omega), eC5, cset_ne (show a ≠ 10 by omega), eC4, cset_ne (show a ≠ 7 by omega), eC3, cset_ne (show a ≠ 9 by omega), eC2, cset_ne (show a ≠ 7 by omega), eC1, cset_ne (show a ≠ 8 by omega)]
  · have h3 : a = 7 ∨ a = 8 ∨ a = 9 ∨ a = 10 := by omega
    rcases h3 with rfl | rfl | rfl | rfl
    · exact hO.trans tg_7.symm
    · rw [eC6, cset_ne (by decide), eC5, cset_ne (by decide), eC4, cset_ne (by decide), eC3, cset_ne (by decide), eC2, cset_ne (by decide), eC1, cset_eq]; exact tg_8.symm
    · rw [eC6, cset_ne (by decide), eC5, cset_ne (by decide), eC4, cset_ne (by decide), eC3, cset_eq]; exact tg_9.symm
    · rw [eC6, cset_ne (by decide), eC5, cset_eq]; exact tg_10.symm
theorem ok_X7_init : okC yX7_init cX7_init 1 none 0 := ⟨gtb_mem (List.mem_append_right _ (List.mem_of_getElem? (i := 114) (by decide +kernel))) rfl, gtb_mem (List.mem_append_right _ (List.mem_of_getElem? (i := 4) (by decide +kernel))) rfl, by decide +kernel⟩
theorem oi_X7_init : Cond.instanceMethod yX7_init ∈ gtb := gtb_mem (List.mem_append_right _ (List.mem_of_getElem? (i := 113) (by decide +kernel))) rfl
theorem dX7_init_0 : decode cX7_init 0 = .ok (.aload_n 0, 1) := by decide +kernel
theorem dX7_init_1 : decode cX7_init 1 = .ok (.invokespecial 3, 3) := by decide +kernel
theorem dX7_init_4 : decode cX7_init 4 = .ok (.aload_n 0, 1) := by decide +kernel
theorem dX7_init_5 : decode cX7_init 5 = .ok (.bipush 32, 2) := by decide +kernel
theorem dX7_init_7 : decode cX7_init 7 = .ok (.newarray .int, 2) := by decide +kernel
theorem dX7_init_9 : decode cX7_init 9 = .ok (.putfield 9, 3) := by decide +kernel
theorem dX7_init_12 : decode cX7_init 12 = .ok (.aload_n 0, 1) := by decide +kernel
theorem dX7_init_13 : decode cX7_init 13 = .ok (.bipush 32, 2) := by decide +kernel
theorem dX7_init_15 : decode cX7_init 15 = .ok (.newarray .int, 2) := by decide +kernel
theorem dX7_init_17 : decode cX7_init 17 = .ok (.putfield 15, 3) := by decide +kernel
theorem dX7_init_20 : decode cX7_init 20 = .ok (.aload_n 0, 1) := by decide +kernel
theorem dX7_init_21 : decode cX7_init 21 = .ok (.sipush 128, 3) := by decide +kernel
theorem dX7_init_24 : decode cX7_init 24 = .ok (.newarray .int, 2) := by decide +kernel
theorem dX7_init_26 : decode cX7_init 26 = .ok (.putfield 18, 3) := by decide +kernel
theorem dX7_init_29 : decode cX7_init 29 = .ok (.aload_n 0, 1) := by decide +kernel
theorem dX7_init_30 : decode cX7_init 30 = .ok (.bipush 32, 2) := by decide +kernel
theorem dX7_init_32 : decode cX7_init 32 = .ok (.newarray .int, 2) := by decide +kernel
theorem dX7_init_34 : decode cX7_init 34 = .ok (.putfield 21, 3) := by decide +kernel
theorem dX7_init_37 : decode cX7_init 37 = .ok (.return_, 1) := by decide +kernel
theorem ml_246 : Cond.methodLink RX7 3 objectInit ∈ gtb := gtb_mem (List.mem_append_right _ (List.mem_of_getElem? (i := 115) (by decide +kernel))) rfl
set_option maxHeartbeats 4000000 in
set_option maxRecDepth 100000 in
theorem iX7_init_ (l : Launch) (bs : Nat) (D : va_G) (y : Y3) (C : CW) (hO : C 11 = .inr (7, [.int 0, .int 0, .null, .null, .null, .null, .int 0])) : Met l yX7_init (.code yX7_init cX7_init 1 none :: gtb) ({ frames := 1, cells := 4, slots := 224, locals := 20 } : Room) (va_Pc [.ref (bs + 11)] (HC bs D y 12 C)) (va_Qv (fun C1 => (∀ a, a < 12 → a ≠ 11 → C1 a = C a) ∧ ∀ a, (a = 11 ∨ (12 ≤ a ∧ a < 16)) → C1 a = cE bs y zI zJ a) (fun C1 t => HC bs D y 16 C1 t) (FA bs)) 4 224 (FA bs) := by
  refine Met.ofW (cc := cX7_init) (maxL := 1) (ret := none) (by decide) rfl ?_
  intro p e s m args below meth c s₁ B hml hv
  obtain ⟨rfl, hz, hP, hK, hN, hL⟩ := hv
  have hx := B.exec
  have hb := B.bytes
  have hr := B.returns
  have hts0 := atoms_spec (ws := .code yX7_init cX7_init 1 none :: gtb) B.pre
  have hts : ∀ w ∈ gtb, w.before [.ref (bs + 11)].toArray s = true := fun w hw => hts0 w (List.mem_cons_of_mem _ hw)
  have hown : s.vm.findClass RX7 = some m.cls := findClass_of_methodNamed B.named
  have hlocks := B.notSynchronized
  have hin2 : meth.name = "<init>" := (name_of_methodNamed B.named B.method).1
  have hS : va_S (FA bs) s.heap s.heap [] := va_S.rf
  have hl := lv_entry [.ref (bs + 11)] (n := 1) (Nat.le_of_ble_eq_true rfl)
  rw [lg_entry_eq]
  generalize (lg_sl [.ref (bs + 11)] ++ List.replicate (1 - (lg_sl [.ref (bs + 11)]).length) Slot.unset).toArray = ls at hl ⊢
  have hl : lv_has ls 1 [(0, .ref (bs + 11))] := hl
  change W p l e ({ frames := 1, cells := 4, slots := 224, locals := 20 } : Room) s m [.ref (bs + 11)].toArray below meth c s.heap [] 0 0 _ (F0 m 0 ls [])
  refine lv_aload_n hx hb dX7_init_0 rfl (lv_at hl 0 rfl) ?_
  refine W.objInit hx hb hown (hts _ ml_246) (hts _ oi_inst) (hts _ oi_code) rfl (by rw [hml]; exact hl.1) rfl dX7_init_1 (Nat.le_of_ble_eq_true rfl) (Nat.le_of_ble_eq_true rfl) ?_
  refine W.eq (g2 := F0 m 4 ls []) rfl ?_
  refine lv_aload_n hx hb dX7_init_4 rfl (lv_at hl 0 rfl) ?_
  refine lv_bipush (v := (32 : Int32)) hx hb dX7_init_5 (by decide) ?_
  refine n_A (t0 := 0) (ty := .int) (N' := 32) (a0 := (32, .inl (fun _ => 0))) hx hb hts hK hP hz hS ac_int rfl rfl (fun _ => rfl) (fun _ => rfl) (by decide) rfl (by decide) (Nat.le_of_ble_eq_true rfl) (Nat.le_of_ble_eq_true rfl) dX7_init_7 (fun H hP hz hS => ?_)
  obtain ⟨C1, eC1⟩ : ∃ z : CW, z = cset C 12 (.inl (y.1, 32, .inl (fun _ => 0))) := ⟨_, rfl⟩
  have hP : va_P D vwCl (wc bs 13 C1) H := by rw [eC1]; exact hP
  have hO : C1 11 = .inr (7, [.int 0, .int 0, .null, .null, .null, .null, .int 0]) := by rw [eC1, cset_ne (by decide)]; exact hO
  refine W.eq (g2 := F0 m 9 ls [.ref (bs + 12), .ref (bs + 11)]) rfl ?_
  refine W.widen (k := 1) (n := 32) (by omega) (by omega) ?_
  refine p_F (K := RX7) (T := TX7) (N := 7) (ci := 7) (ty := .array .int) 11 2 tyX7 hx hb hts hown hin2 hK hP hz hS in_X7 tyX7_ok nmX7 rfl (by decide) hO (by decide) fl_5 rfl rfl (by decide +kernel) rfl rfl (Nat.le_of_ble_eq_true rfl) dX7_init_9 (fun H locs hP hz hS => ?_)
  obtain ⟨C2, eC2⟩ : ∃ z : CW, z = cset C1 11 (.inr (7, [.int 0, .int 0, .ref (bs + 12), .null, .null, .null, .int 0])) := ⟨_, rfl⟩
  have hP : va_P D vwCl (wc bs 13 C2) H := by rw [eC2]; exact hP
  have hO : C2 11 = .inr (7, [.int 0, .int 0, .ref (bs + 12), .null, .null, .null, .int 0]) := by rw [eC2]; exact cset_eq
  refine lv_aload_n hx hb dX7_init_12 rfl (lv_at hl 0 rfl) ?_
  refine lv_bipush (v := (32 : Int32)) hx hb dX7_init_13 (by decide) ?_
  refine n_A (t0 := 0) (ty := .int) (N' := 32) (a0 := (32, .inl (fun _ => 0))) hx hb hts hK hP hz hS ac_int rfl rfl (fun _ => rfl) (fun _ => rfl) (by decide) rfl (by decide) (Nat.le_of_ble_eq_true rfl) (Nat.le_of_ble_eq_true rfl) dX7_init_15 (fun H hP hz hS => ?_)
  obtain ⟨C3, eC3⟩ : ∃ z : CW, z = cset C2 13 (.inl (y.1, 32, .inl (fun _ => 0))) := ⟨_, rfl⟩
  have hP : va_P D vwCl (wc bs 14 C3) H := by rw [eC3]; exact hP
  have hO : C3 11 = .inr (7, [.int 0, .int 0, .ref (bs + 12), .null, .null, .null, .int 0]) := by rw [eC3, cset_ne (by decide)]; exact hO
  refine W.eq (g2 := F0 m 17 ls [.ref (bs + 13), .ref (bs + 11)]) rfl ?_
  refine W.widen (k := 2) (n := 64) (by omega) (by omega) ?_
  refine p_F (K := RX7) (T := TX7) (N := 7) (ci := 7) (ty := .array .int) 11 3 tyX7 hx hb hts hown hin2 hK hP hz hS in_X7 tyX7_ok nmX7 rfl (by decide) hO (by decide) fl_80 rfl rfl (by decide +kernel) rfl rfl (Nat.le_of_ble_eq_true rfl) dX7_init_17 (fun H locs hP hz hS => ?_)
  obtain ⟨C4, eC4⟩ : ∃ z : CW, z = cset C3 11 (.inr (7, [.int 0, .int 0, .ref (bs + 12), .ref (bs + 13), .null, .null, .int 0])) := ⟨_, rfl⟩
  have hP : va_P D vwCl (wc bs 14 C4) H := by rw [eC4]; exact hP
  have hO : C4 11 = .inr (7, [.int 0, .int 0, .ref (bs + 12), .ref (bs + 13), .null, .null, .int 0]) := by rw [eC4]; exact cset_eq
  refine lv_aload_n hx hb dX7_init_20 rfl (lv_at hl 0 rfl) ?_
  refine lv_sipush (v := (128 : Int32)) hx hb dX7_init_21 (by decide) ?_
  refine n_A (t0 := 0) (ty := .int) (N' := 128) (a0 := (128, .inl (fun _ => 0))) hx hb hts hK hP hz hS ac_int rfl rfl (fun _ => rfl) (fun _ => rfl) (by decide) rfl (by decide) (Nat.le_of_ble_eq_true rfl) (Nat.le_of_ble_eq_true rfl) dX7_init_24 (fun H hP hz hS => ?_)
  obtain ⟨C5, eC5⟩ : ∃ z : CW, z = cset C4 14 (.inl (y.1, 128, .inl (fun _ => 0))) := ⟨_, rfl⟩
  have hP : va_P D vwCl (wc bs 15 C5) H := by rw [eC5]; exact hP
  have hO : C5 11 = .inr (7, [.int 0, .int 0, .ref (bs + 12), .ref (bs + 13), .null, .null, .int 0]) := by rw [eC5, cset_ne (by decide)]; exact hO
  refine W.eq (g2 := F0 m 26 ls [.ref (bs + 14), .ref (bs + 11)]) rfl ?_
  refine W.widen (k := 3) (n := 192) (by omega) (by omega) ?_
  refine p_F (K := RX7) (T := TX7) (N := 7) (ci := 7) (ty := .array .int) 11 4 tyX7 hx hb hts hown hin2 hK hP hz hS in_X7 tyX7_ok nmX7 rfl (by decide) hO (by decide) fl_6 rfl rfl (by decide +kernel) rfl rfl (Nat.le_of_ble_eq_true rfl) dX7_init_26 (fun H locs hP hz hS => ?_)
  obtain ⟨C6, eC6⟩ : ∃ z : CW, z = cset C5 11 (.inr (7, [.int 0, .int 0, .ref (bs + 12), .ref (bs + 13), .ref (bs + 14), .null, .int 0])) := ⟨_, rfl⟩
  have hP : va_P D vwCl (wc bs 15 C6) H := by rw [eC6]; exact hP
  have hO : C6 11 = .inr (7, [.int 0, .int 0, .ref (bs + 12), .ref (bs + 13), .ref (bs + 14), .null, .int 0]) := by rw [eC6]; exact cset_eq
  refine lv_aload_n hx hb dX7_init_29 rfl (lv_at hl 0 rfl) ?_
  refine lv_bipush (v := (32 : Int32)) hx hb dX7_init_30 (by decide) ?_
  refine n_A (t0 := 0) (ty := .int) (N' := 32) (a0 := (32, .inl (fun _ => 0))) hx hb hts hK hP hz hS ac_int rfl rfl (fun _ => rfl) (fun _ => rfl) (by decide) rfl (by decide) (Nat.le_of_ble_eq_true rfl) (Nat.le_of_ble_eq_true rfl) dX7_init_32 (fun H hP hz hS => ?_)
  obtain ⟨C7, eC7⟩ : ∃ z : CW, z = cset C6 15 (.inl (y.1, 32, .inl (fun _ => 0))) := ⟨_, rfl⟩
  have hP : va_P D vwCl (wc bs 16 C7) H := by rw [eC7]; exact hP
  have hO : C7 11 = .inr (7, [.int 0, .int 0, .ref (bs + 12), .ref (bs + 13), .ref (bs + 14), .null, .int 0]) := by rw [eC7, cset_ne (by decide)]; exact hO
  refine W.eq (g2 := F0 m 34 ls [.ref (bs + 15), .ref (bs + 11)]) rfl ?_
  refine W.widen (k := 4) (n := 224) (by omega) (by omega) ?_
  refine p_F (K := RX7) (T := TX7) (N := 7) (ci := 7) (ty := .array .int) 11 5 tyX7 hx hb hts hown hin2 hK hP hz hS in_X7 tyX7_ok nmX7 rfl (by decide) hO (by decide) fl_77 rfl rfl (by decide +kernel) rfl rfl (Nat.le_of_ble_eq_true rfl) dX7_init_34 (fun H locs hP hz hS => ?_)
  obtain ⟨C8, eC8⟩ : ∃ z : CW, z = cset C7 11 (.inr (7, [.int 0, .int 0, .ref (bs + 12), .ref (bs + 13), .ref (bs + 14), .ref (bs + 15), .int 0])) := ⟨_, rfl⟩
  have hP : va_P D vwCl (wc bs 16 C8) H := by rw [eC8]; exact hP
  have hO : C8 11 = .inr (7, [.int 0, .int 0, .ref (bs + 12), .ref (bs + 13), .ref (bs + 14), .ref (bs + 15), .int 0]) := by rw [eC8]; exact cset_eq
  refine r_C hx hb hr hlocks hP hz hK hN hL hS ⟨fun a h1 h2 => ?_, fun a h1 => ?_⟩ dX7_init_37
  · rw [eC8, cset_ne (show a ≠ 11 by omega), eC7, cset_ne (show a ≠ 15 by omega), eC6, cset_ne (show a ≠ 11 by omega), eC5, cset_ne (show a ≠ 14 by omega), eC4, cset_ne (show a ≠ 11 by omega), eC3, cset_ne (show a ≠ 13 by omega), eC2, cset_ne (show a ≠ 11 by omega), eC1, cset_ne (show a ≠ 12 by omega)]
  · have h3 : a = 11 ∨ a = 12 ∨ a = 13 ∨ a = 14 ∨ a = 15 := by omega
    rcases h3 with rfl | rfl | rfl | rfl | rfl
    · exact hO.trans tg_11.symm
    · rw [eC8, cset_ne (by decide), eC7, cset_ne (by decide), eC6, cset_ne (by decide), eC5, cset_ne (by decide), eC4, cset_ne (by decide), eC3, cset_ne (by decide), eC2, cset_ne (by decide), eC1, cset_eq]; exact tg_12.symm
    · rw [eC8, cset_ne (by decide), eC7, cset_ne (by decide), eC6, cset_ne (by decide), eC5, cset_ne (by decide), eC4, cset_ne (by decide), eC3, cset_eq]; exact tg_13.symm
    · rw [eC8, cset_ne (by decide), eC7, cset_ne (by decide), eC6, cset_ne (by decide), eC5, cset_eq]; exact tg_14.symm
    · rw [eC8, cset_ne (by decide), eC7, cset_eq]; exact tg_15.symm
theorem ok_X2_init : okC yX2_init cX2_init 1 none 0 := ⟨gtb_mem (List.mem_append_right _ (List.mem_of_getElem? (i := 150) (by decide +kernel))) rfl, gtb_mem (List.mem_append_right _ (List.mem_of_getElem? (i := 5) (by decide +kernel))) rfl, by decide +kernel⟩
theorem oi_X2_init : Cond.instanceMethod yX2_init ∈ gtb := gtb_mem (List.mem_append_right _ (List.mem_of_getElem? (i := 149) (by decide +kernel))) rfl
theorem dX2_init_0 : decode cX2_init 0 = .ok (.aload_n 0, 1) := by decide +kernel
theorem dX2_init_1 : decode cX2_init 1 = .ok (.invokespecial 3, 3) := by decide +kernel
theorem dX2_init_4 : decode cX2_init 4 = .ok (.aload_n 0, 1) := by decide +kernel
theorem dX2_init_5 : decode cX2_init 5 = .ok (.bipush 36, 2) := by decide +kernel
theorem dX2_init_7 : decode cX2_init 7 = .ok (.newarray .int, 2) := by decide +kernel
theorem dX2_init_9 : decode cX2_init 9 = .ok (.putfield 9, 3) := by decide +kernel
theorem dX2_init_12 : decode cX2_init 12 = .ok (.aload_n 0, 1) := by decide +kernel
theorem dX2_init_13 : decode cX2_init 13 = .ok (.bipush 36, 2) := by decide +kernel
theorem dX2_init_15 : decode cX2_init 15 = .ok (.newarray .int, 2) := by decide +kernel
theorem dX2_init_17 : decode cX2_init 17 = .ok (.putfield 15, 3) := by decide +kernel
theorem dX2_init_20 : decode cX2_init 20 = .ok (.aload_n 0, 1) := by decide +kernel
theorem dX2_init_21 : decode cX2_init 21 = .ok (.bipush 60, 2) := by decide +kernel
theorem dX2_init_23 : decode cX2_init 23 = .ok (.newarray .int, 2) := by decide +kernel
theorem dX2_init_25 : decode cX2_init 25 = .ok (.putfield 18, 3) := by decide +kernel
theorem dX2_init_28 : decode cX2_init 28 = .ok (.aload_n 0, 1) := by decide +kernel
theorem dX2_init_29 : decode cX2_init 29 = .ok (.bipush 60, 2) := by decide +kernel
theorem dX2_init_31 : decode cX2_init 31 = .ok (.newarray .int, 2) := by decide +kernel
theorem dX2_init_33 : decode cX2_init 33 = .ok (.putfield 21, 3) := by decide +kernel
theorem dX2_init_36 : decode cX2_init 36 = .ok (.aload_n 0, 1) := by decide +kernel
theorem dX2_init_37 : decode cX2_init 37 = .ok (.sipush 144, 3) := by decide +kernel
theorem dX2_init_40 : decode cX2_init 40 = .ok (.newarray .int, 2) := by decide +kernel
theorem dX2_init_42 : decode cX2_init 42 = .ok (.putfield 24, 3) := by decide +kernel
theorem dX2_init_45 : decode cX2_init 45 = .ok (.return_, 1) := by decide +kernel
theorem ml_247 : Cond.methodLink RX2 3 objectInit ∈ gtb := gtb_mem (List.mem_append_right _ (List.mem_of_getElem? (i := 151) (by decide +kernel))) rfl
set_option maxHeartbeats 4000000 in
set_option maxRecDepth 100000 in
theorem iX2_init_ (l : Launch) (bs : Nat) (D : va_G) (y : Y3) (C : CW) (hO : C 16 = .inr (2, [.int 0, .int 0, .int 0, .null, .null, .null, .null, .null, .int 0, .long 0])) : Met l yX2_init (.code yX2_init cX2_init 1 none :: gtb) ({ frames := 1, cells := 5, slots := 336, locals := 20 } : Room) (va_Pc [.ref (bs + 16)] (HC bs D y 17 C)) (va_Qv (fun C1 => (∀ a, a < 17 → a ≠ 16 → C1 a = C a) ∧ ∀ a, (a = 16 ∨ (17 ≤ a ∧ a < 22)) → C1 a = cE bs y zI zJ a) (fun C1 t => HC bs D y 22 C1 t) (FA bs)) 5 336 (FA bs) := by
  refine Met.ofW (cc := cX2_init) (maxL := 1) (ret := none) (by decide) rfl ?_
  intro p e s m args below meth c s₁ B hml hv
  obtain ⟨rfl, hz, hP, hK, hN, hL⟩ := hv
  have hx := B.exec
  have hb := B.bytes
  have hr := B.returns
  have hts0 := atoms_spec (ws := .code yX2_init cX2_init 1 none :: gtb) B.pre
  have hts : ∀ w ∈ gtb, w.before [.ref (bs + 16)].toArray s = true := fun w hw => hts0 w (List.mem_cons_of_mem _ hw)
  have hown : s.vm.findClass RX2 = some m.cls := findClass_of_methodNamed B.named
  have hlocks := B.notSynchronized
  have hin2 : meth.name = "<init>" := (name_of_methodNamed B.named B.method).1
  have hS : va_S (FA bs) s.heap s.heap [] := va_S.rf
  have hl := lv_entry [.ref (bs + 16)] (n := 1) (Nat.le_of_ble_eq_true rfl)
  rw [lg_entry_eq]
  generalize (lg_sl [.ref (bs + 16)] ++ List.replicate (1 - (lg_sl [.ref (bs + 16)]).length) Slot.unset).toArray = ls at hl ⊢
  have hl : lv_has ls 1 [(0, .ref (bs + 16))] := hl
  change W p l e ({ frames := 1, cells := 5, slots := 336, locals := 20 } : Room) s m [.ref (bs + 16)].toArray below meth c s.heap [] 0 0 _ (F0 m 0 ls [])
  refine lv_aload_n hx hb dX2_init_0 rfl (lv_at hl 0 rfl) ?_
  refine W.objInit hx hb hown (hts _ ml_247) (hts _ oi_inst) (hts _ oi_code) rfl (by rw [hml]; exact hl.1) rfl dX2_init_1 (Nat.le_of_ble_eq_true rfl) (Nat.le_of_ble_eq_true rfl) ?_
  refine W.eq (g2 := F0 m 4 ls []) rfl ?_
  refine lv_aload_n hx hb dX2_init_4 rfl (lv_at hl 0 rfl) ?_
  refine lv_bipush (v := (36 : Int32)) hx hb dX2_init_5 (by decide) ?_
  refine n_A (t0 := 0) (ty := .int) (N' := 36) (a0 := (36, .inl (fun _ => 0))) hx hb hts hK hP hz hS ac_int rfl rfl (fun _ => rfl) (fun _ => rfl) (by decide) rfl (by decide) (Nat.le_of_ble_eq_true rfl) (Nat.le_of_ble_eq_true rfl) dX2_init_7 (fun H hP hz hS => ?_)
  obtain ⟨C1, eC1⟩ : ∃ z : CW, z = cset C 17 (.inl (y.1, 36, .inl (fun _ => 0))) := ⟨_, rfl⟩
  have hP : va_P D vwCl (wc bs 18 C1) H := by rw [eC1]; exact hP
  have hO : C1 16 = .inr (2, [.int 0, .int 0, .int 0, .null, .null, .null, .null, .null, .int 0, .long 0]) := by rw [eC1, cset_ne (by decide)]; exact hO
  refine W.eq (g2 := F0 m 9 ls [.ref (bs + 17), .ref (bs + 16)]) rfl ?_
  refine W.widen (k := 1) (n := 36) (by omega) (by omega) ?_
  refine p_F (K := RX2) (T := TX2) (N := 10) (ci := 2) (ty := .array .int) 16 3 tyX2 hx hb hts hown hin2 hK hP hz hS in_X2 tyX2_ok nmX2 rfl (by decide) hO (by decide) fl_25 rfl rfl (by decide +kernel) rfl rfl (Nat.le_of_ble_eq_true rfl) dX2_init_9 (fun H locs hP hz hS => ?_)
  obtain ⟨C2, eC2⟩ : ∃ z : CW, z = cset C1 16 (.inr (2, [.int 0, .int 0, .int 0, .ref (bs + 17), .null, .null, .null, .null, .int 0, .long 0])) := ⟨_, rfl⟩
  have hP : va_P D vwCl (wc bs 18 C2) H := by rw [eC2]; exact hP
  have hO : C2 16 = .inr (2, [.int 0, .int 0, .int 0, .ref (bs + 17), .null, .null, .null, .null, .int 0, .long 0]) := by rw [eC2]; exact cset_eq
  refine lv_aload_n hx hb dX2_init_12 rfl (lv_at hl 0 rfl) ?_
  refine lv_bipush (v := (36 : Int32)) hx hb dX2_init_13 (by decide) ?_
  refine n_A (t0 := 0) (ty := .int) (N' := 36) (a0 := (36, .inl (fun _ => 0))) hx hb hts hK hP hz hS ac_int rfl rfl (fun _ => rfl) (fun _ => rfl) (by decide) rfl (by decide) (Nat.le_of_ble_eq_true rfl) (Nat.le_of_ble_eq_true rfl) dX2_init_15 (fun H hP hz hS => ?_)
  obtain ⟨C3, eC3⟩ : ∃ z : CW, z = cset C2 18 (.inl (y.1, 36, .inl (fun _ => 0))) := ⟨_, rfl⟩
  have hP : va_P D vwCl (wc bs 19 C3) H := by rw [eC3]; exact hP
  have hO : C3 16 = .inr (2, [.int 0, .int 0, .int 0, .ref (bs + 17), .null, .null, .null, .null, .int 0, .long 0]) := by rw [eC3, cset_ne (by decide)]; exact hO
  refine W.eq (g2 := F0 m 17 ls [.ref (bs + 18), .ref (bs + 16)]) rfl ?_
  refine W.widen (k := 2) (n := 72) (by omega) (by omega) ?_
  refine p_F (K := RX2) (T := TX2) (N := 10) (ci := 2) (ty := .array .int) 16 4 tyX2 hx hb hts hown hin2 hK hP hz hS in_X2 tyX2_ok nmX2 rfl (by decide) hO (by decide) fl_26 rfl rfl (by decide +kernel) rfl rfl (Nat.le_of_ble_eq_true rfl) dX2_init_17 (fun H locs hP hz hS => ?_)
  obtain ⟨C4, eC4⟩ : ∃ z : CW, z = cset C3 16 (.inr (2, [.int 0, .int 0, .int 0, .ref (bs + 17), .ref (bs + 18), .null, .null, .null, .int 0, .long 0])) := ⟨_, rfl⟩
  have hP : va_P D vwCl (wc bs 19 C4) H := by rw [eC4]; exact hP
  have hO : C4 16 = .inr (2, [.int 0, .int 0, .int 0, .ref (bs + 17), .ref (bs + 18), .null, .null, .null, .int 0, .long 0]) := by rw [eC4]; exact cset_eq
  refine lv_aload_n hx hb dX2_init_20 rfl (lv_at hl 0 rfl) ?_
  refine lv_bipush (v := (60 : Int32)) hx hb dX2_init_21 (by decide) ?_
  refine n_A (t0 := 0) (ty := .int) (N' := 60) (a0 := (60, .inl (fun _ => 0))) hx hb hts hK hP hz hS ac_int rfl rfl (fun _ => rfl) (fun _ => rfl) (by decide) rfl (by decide) (Nat.le_of_ble_eq_true rfl) (Nat.le_of_ble_eq_true rfl) dX2_init_23 (fun H hP hz hS => ?_)
  obtain ⟨C5, eC5⟩ : ∃ z : CW, z = cset C4 19 (.inl (y.1, 60, .inl (fun _ => 0))) := ⟨_, rfl⟩
  have hP : va_P D vwCl (wc bs 20 C5) H := by rw [eC5]; exact hP
  have hO : C5 16 = .inr (2, [.int 0, .int 0, .int 0, .ref (bs + 17), .ref (bs + 18), .null, .null, .null, .int 0, .long 0]) := by rw [eC5, cset_ne (by decide)]; exact hO
  refine W.eq (g2 := F0 m 25 ls [.ref (bs + 19), .ref (bs + 16)]) rfl ?_
  refine W.widen (k := 3) (n := 132) (by omega) (by omega) ?_
  refine p_F (K := RX2) (T := TX2) (N := 10) (ci := 2) (ty := .array .int) 16 5 tyX2 hx hb hts hown hin2 hK hP hz hS in_X2 tyX2_ok nmX2 rfl (by decide) hO (by decide) fl_20 rfl rfl (by decide +kernel) rfl rfl (Nat.le_of_ble_eq_true rfl) dX2_init_25 (fun H locs hP hz hS => ?_)
  obtain ⟨C6, eC6⟩ : ∃ z : CW, z = cset C5 16 (.inr (2, [.int 0, .int 0, .int 0, .ref (bs + 17), .ref (bs + 18), .ref (bs + 19), .null, .null, .int 0, .long 0])) := ⟨_, rfl⟩
  have hP : va_P D vwCl (wc bs 20 C6) H := by rw [eC6]; exact hP
  have hO : C6 16 = .inr (2, [.int 0, .int 0, .int 0, .ref (bs + 17), .ref (bs + 18), .ref (bs + 19), .null, .null, .int 0, .long 0]) := by rw [eC6]; exact cset_eq
  refine lv_aload_n hx hb dX2_init_28 rfl (lv_at hl 0 rfl) ?_
  refine lv_bipush (v := (60 : Int32)) hx hb dX2_init_29 (by decide) ?_
  refine n_A (t0 := 0) (ty := .int) (N' := 60) (a0 := (60, .inl (fun _ => 0))) hx hb hts hK hP hz hS ac_int rfl rfl (fun _ => rfl) (fun _ => rfl) (by decide) rfl (by decide) (Nat.le_of_ble_eq_true rfl) (Nat.le_of_ble_eq_true rfl) dX2_init_31 (fun H hP hz hS => ?_)
  obtain ⟨C7, eC7⟩ : ∃ z : CW, z = cset C6 20 (.inl (y.1, 60, .inl (fun _ => 0))) := ⟨_, rfl⟩
  have hP : va_P D vwCl (wc bs 21 C7) H := by rw [eC7]; exact hP
  have hO : C7 16 = .inr (2, [.int 0, .int 0, .int 0, .ref (bs + 17), .ref (bs + 18), .ref (bs + 19), .null, .null, .int 0, .long 0]) := by rw [eC7, cset_ne (by decide)]; exact hO
  refine W.eq (g2 := F0 m 33 ls [.ref (bs + 20), .ref (bs + 16)]) rfl ?_
  refine W.widen (k := 4) (n := 192) (by omega) (by omega) ?_
  refine p_F (K := RX2) (T := TX2) (N := 10) (ci := 2) (ty := .array .int) 16 6 tyX2 hx hb hts hown hin2 hK hP hz hS in_X2 tyX2_ok nmX2 rfl (by decide) hO (by decide) fl_22 rfl rfl (by decide +kernel) rfl rfl (Nat.le_of_ble_eq_true rfl) dX2_init_33 (fun H locs hP hz hS => ?_)
  obtain ⟨C8, eC8⟩ : ∃ z : CW, z = cset C7 16 (.inr (2, [.int 0, .int 0, .int 0, .ref (bs + 17), .ref (bs + 18), .ref (bs + 19), .ref (bs + 20), .null, .int 0, .long 0])) := ⟨_, rfl⟩
  have hP : va_P D vwCl (wc bs 21 C8) H := by rw [eC8]; exact hP
  have hO : C8 16 = .inr (2, [.int 0, .int 0, .int 0, .ref (bs + 17), .ref (bs + 18), .ref (bs + 19), .ref (bs + 20), .null, .int 0, .long 0]) := by rw [eC8]; exact cset_eq
  refine lv_aload_n hx hb dX2_init_36 rfl (lv_at hl 0 rfl) ?_
  refine lv_sipush (v := (144 : Int32)) hx hb dX2_init_37 (by decide) ?_
  refine n_A (t0 := 0) (ty := .int) (N' := 144) (a0 := (144, .inl (fun _ => 0))) hx hb hts hK hP hz hS ac_int rfl rfl (fun _ => rfl) (fun _ => rfl) (by decide) rfl (by decide) (Nat.le_of_ble_eq_true rfl) (Nat.le_of_ble_eq_true rfl) dX2_init_40 (fun H hP hz hS => ?_)
  obtain ⟨C9, eC9⟩ : ∃ z : CW, z = cset C8 21 (.inl (y.1, 144, .inl (fun _ => 0))) := ⟨_, rfl⟩
  have hP : va_P D vwCl (wc bs 22 C9) H := by rw [eC9]; exact hP
  have hO : C9 16 = .inr (2, [.int 0, .int 0, .int 0, .ref (bs + 17), .ref (bs + 18), .ref (bs + 19), .ref (bs + 20), .null, .int 0, .long 0]) := by rw [eC9, cset_ne (by decide)]; exact hO
  refine W.eq (g2 := F0 m 42 ls [.ref (bs + 21), .ref (bs + 16)]) rfl ?_
  refine W.widen (k := 5) (n := 336) (by omega) (by omega) ?_
  refine p_F (K := RX2) (T := TX2) (N := 10) (ci := 2) (ty := .array .int) 16 7 tyX2 hx hb hts hown hin2 hK hP hz hS in_X2 tyX2_ok nmX2 rfl (by decide) hO (by decide) fl_23 rfl rfl (by decide +kernel) rfl rfl (Nat.le_of_ble_eq_true rfl) dX2_init_42 (fun H locs hP hz hS => ?_)
  obtain ⟨C10, eC10⟩ : ∃ z : CW, z = cset C9 16 (.inr (2, [.int 0, .int 0, .int 0, .ref (bs + 17), .ref (bs + 18), .ref (bs + 19), .ref (bs + 20), .ref (bs + 21), .int 0, .long 0])) := ⟨_, rfl⟩
  have hP : va_P D vwCl (wc bs 22 C10) H := by rw [eC10]; exact hP
  have hO : C10 16 = .inr (2, [.int 0, .int 0, .int 0, .ref (bs + 17), .ref (bs + 18), .ref (bs + 19), .ref (bs + 20), .ref (bs + 21), .int 0, .long 0]) := by rw [eC10]; exact cset_eq
  refine r_C hx hb hr hlocks hP hz hK hN hL hS ⟨fun a h1 h2 => ?_, fun a h1 => ?_⟩ dX2_init_45
  · rw [eC10, cset_ne (show a ≠ 16 by omega), eC9, cset_ne (show a ≠ 21 by omega), eC8, cset_ne (show a ≠ 16 by omega), eC7, cset_ne (show a ≠ 20 by omega), eC6, cset_ne (show a ≠ 16 by omega), eC5, cset_ne (show a ≠ 19 by omega), eC4, cset_ne (show a ≠ 16 by omega), eC3, cset_ne (show a ≠ 18 by omega), eC2, cset_ne (show a ≠ 16 by omega), eC1, cset_ne (show a ≠ 17 by omega)]
  · have h3 : a = 16 ∨ a = 17 ∨ a = 18 ∨ a = 19 ∨ a = 20 ∨ a = 21 := by omega
    rcases h3 with rfl | rfl | rfl | rfl | rfl | rfl
    · exact hO.trans tg_16.symm
    · rw [eC10, cset_ne (by decide), eC9, cset_ne (by decide), eC8, cset_ne (by decide), eC7, cset_ne (by decide), eC6, cset_ne (by decide), eC5, cset_ne (by decide), eC4, cset_ne (by decide), eC3, cset_ne (by decide), eC2, cset_ne (by decide), eC1, cset_eq]; exact tg_17.symm
    · rw [eC10, cset_ne (by decide), eC9, cset_ne (by decide), eC8, cset_ne (by decide), eC7, cset_ne (by decide), eC6, cset_ne (by decide), eC5, cset_ne (by decide), eC4, cset_ne (by decide), eC3, cset_eq]; exact tg_18.symm
    · rw [eC10, cset_ne (by decide), eC9, cset_ne (by decide), eC8, cset_ne (by decide), eC7, cset_ne (by decide), eC6, cset_ne (by decide), eC5, cset_eq]; exact tg_19.symm
    · rw [eC10, cset_ne (by decide), eC9, cset_ne (by decide), eC8, cset_ne (by decide), eC7, cset_eq]; exact tg_20.symm
    · rw [eC10, cset_ne (by decide), eC9, cset_eq]; exact tg_21.symm
theorem ok_X5_init : okC yX5_init cX5_init 1 none 0 := ⟨gtb_mem (List.mem_append_right _ (List.mem_of_getElem? (i := 199) (by decide +kernel))) rfl, gtb_mem (List.mem_append_right _ (List.mem_of_getElem? (i := 6) (by decide +kernel))) rfl, by decide +kernel⟩
theorem oi_X5_init : Cond.instanceMethod yX5_init ∈ gtb := gtb_mem (List.mem_append_right _ (List.mem_of_getElem? (i := 198) (by decide +kernel))) rfl
theorem dX5_init_0 : decode cX5_init 0 = .ok (.aload_n 0, 1) := by decide +kernel
theorem dX5_init_1 : decode cX5_init 1 = .ok (.invokespecial 3, 3) := by decide +kernel
theorem dX5_init_4 : decode cX5_init 4 = .ok (.aload_n 0, 1) := by decide +kernel
theorem dX5_init_5 : decode cX5_init 5 = .ok (.bipush 32, 2) := by decide +kernel
theorem dX5_init_7 : decode cX5_init 7 = .ok (.newarray .int, 2) := by decide +kernel
theorem dX5_init_9 : decode cX5_init 9 = .ok (.putfield 9, 3) := by decide +kernel
theorem dX5_init_12 : decode cX5_init 12 = .ok (.aload_n 0, 1) := by decide +kernel
theorem dX5_init_13 : decode cX5_init 13 = .ok (.bipush 32, 2) := by decide +kernel
theorem dX5_init_15 : decode cX5_init 15 = .ok (.newarray .int, 2) := by decide +kernel
theorem dX5_init_17 : decode cX5_init 17 = .ok (.putfield 15, 3) := by decide +kernel
theorem dX5_init_20 : decode cX5_init 20 = .ok (.aload_n 0, 1) := by decide +kernel
theorem dX5_init_21 : decode cX5_init 21 = .ok (.bipush 36, 2) := by decide +kernel
theorem dX5_init_23 : decode cX5_init 23 = .ok (.newarray .int, 2) := by decide +kernel
theorem dX5_init_25 : decode cX5_init 25 = .ok (.putfield 18, 3) := by decide +kernel
theorem dX5_init_28 : decode cX5_init 28 = .ok (.aload_n 0, 1) := by decide +kernel
theorem dX5_init_29 : decode cX5_init 29 = .ok (.bipush 32, 2) := by decide +kernel
theorem dX5_init_31 : decode cX5_init 31 = .ok (.newarray .int, 2) := by decide +kernel
theorem dX5_init_33 : decode cX5_init 33 = .ok (.putfield 21, 3) := by decide +kernel
theorem dX5_init_36 : decode cX5_init 36 = .ok (.aload_n 0, 1) := by decide +kernel
theorem dX5_init_37 : decode cX5_init 37 = .ok (.bipush 32, 2) := by decide +kernel
theorem dX5_init_39 : decode cX5_init 39 = .ok (.newarray .int, 2) := by decide +kernel
theorem dX5_init_41 : decode cX5_init 41 = .ok (.putfield 24, 3) := by decide +kernel
theorem dX5_init_44 : decode cX5_init 44 = .ok (.return_, 1) := by decide +kernel
theorem ml_248 : Cond.methodLink RX5 3 objectInit ∈ gtb := gtb_mem (List.mem_append_right _ (List.mem_of_getElem? (i := 200) (by decide +kernel))) rfl
set_option maxHeartbeats 4000000 in
set_option maxRecDepth 100000 in
theorem iX5_init_ (l : Launch) (bs : Nat) (D : va_G) (y : Y3) (C : CW) (hO : C 22 = .inr (5, [.int 0, .int 0, .null, .null, .null, .null, .null])) : Met l yX5_init (.code yX5_init cX5_init 1 none :: gtb) ({ frames := 1, cells := 5, slots := 164, locals := 20 } : Room) (va_Pc [.ref (bs + 22)] (HC bs D y 23 C)) (va_Qv (fun C1 => (∀ a, a < 23 → a ≠ 22 → C1 a = C a) ∧ ∀ a, (a = 22 ∨ (23 ≤ a ∧ a < 28)) → C1 a = cE bs y zI zJ a) (fun C1 t => HC bs D y 28 C1 t) (FA bs)) 5 164 (FA bs) := by
  refine Met.ofW (cc := cX5_init) (maxL := 1) (ret := none) (by decide) rfl ?_
  intro p e s m args below meth c s₁ B hml hv
  obtain ⟨rfl, hz, hP, hK, hN, hL⟩ := hv
  have hx := B.exec
  have hb := B.bytes
  have hr := B.returns
  have hts0 := atoms_spec (ws := .code yX5_init cX5_init 1 none :: gtb) B.pre
  have hts : ∀ w ∈ gtb, w.before [.ref (bs + 22)].toArray s = true := fun w hw => hts0 w (List.mem_cons_of_mem _ hw)
  have hown : s.vm.findClass RX5 = some m.cls := findClass_of_methodNamed B.named
  have hlocks := B.notSynchronized
  have hin2 : meth.name = "<init>" := (name_of_methodNamed B.named B.method).1
  have hS : va_S (FA bs) s.heap s.heap [] := va_S.rf
  have hl := lv_entry [.ref (bs + 22)] (n := 1) (Nat.le_of_ble_eq_true rfl)
  rw [lg_entry_eq]
  generalize (lg_sl [.ref (bs + 22)] ++ List.replicate (1 - (lg_sl [.ref (bs + 22)]).length) Slot.unset).toArray = ls at hl ⊢
  have hl : lv_has ls 1 [(0, .ref (bs + 22))] := hl
  change W p l e ({ frames := 1, cells := 5, slots := 164, locals := 20 } : Room) s m [.ref (bs + 22)].toArray below meth c s.heap [] 0 0 _ (F0 m 0 ls [])
  refine lv_aload_n hx hb dX5_init_0 rfl (lv_at hl 0 rfl) ?_
  refine W.objInit hx hb hown (hts _ ml_248) (hts _ oi_inst) (hts _ oi_code) rfl (by rw [hml]; exact hl.1) rfl dX5_init_1 (Nat.le_of_ble_eq_true rfl) (Nat.le_of_ble_eq_true rfl) ?_
  refine W.eq (g2 := F0 m 4 ls []) rfl ?_
  refine lv_aload_n hx hb dX5_init_4 rfl (lv_at hl 0 rfl) ?_
  refine lv_bipush (v := (32 : Int32)) hx hb dX5_init_5 (by decide) ?_
  refine n_A (t0 := 0) (ty := .int) (N' := 32) (a0 := (32, .inl (fun _ => 0))) hx hb hts hK hP hz hS ac_int rfl rfl (fun _ => rfl) (fun _ => rfl) (by decide) rfl (by decide) (Nat.le_of_ble_eq_true rfl) (Nat.le_of_ble_eq_true rfl) dX5_init_7 (fun H hP hz hS => ?_)
  obtain ⟨C1, eC1⟩ : ∃ z : CW, z = cset C 23 (.inl (y.1, 32, .inl (fun _ => 0))) := ⟨_, rfl⟩
  have hP : va_P D vwCl (wc bs 24 C1) H := by rw [eC1]; exact hP
  have hO : C1 22 = .inr (5, [.int 0, .int 0, .null, .null, .null, .null, .null]) := by rw [eC1, cset_ne (by decide)]; exact hO
  refine W.eq (g2 := F0 m 9 ls [.ref (bs + 23), .ref (bs + 22)]) rfl ?_
  refine W.widen (k := 1) (n := 32) (by omega) (by omega) ?_
  refine p_F (K := RX5) (T := TX5) (N := 7) (ci := 5) (ty := .array .int) 22 2 tyX5 hx hb hts hown hin2 hK hP hz hS in_X5 tyX5_ok nmX5 rfl (by decide) hO (by decide) fl_48 rfl rfl (by decide +kernel) rfl rfl (Nat.le_of_ble_eq_true rfl) dX5_init_9 (fun H locs hP hz hS => ?_)
  obtain ⟨C2, eC2⟩ : ∃ z : CW, z = cset C1 22 (.inr (5, [.int 0, .int 0, .ref (bs + 23), .null, .null, .null, .null])) := ⟨_, rfl⟩
  have hP : va_P D vwCl (wc bs 24 C2) H := by rw [eC2]; exact hP
  have hO : C2 22 = .inr (5, [.int 0, .int 0, .ref (bs + 23), .null, .null, .null, .null]) := by rw [eC2]; exact cset_eq
  refine lv_aload_n hx hb dX5_init_12 rfl (lv_at hl 0 rfl) ?_
  refine lv_bipush (v := (32 : Int32)) hx hb dX5_init_13 (by decide) ?_
  refine n_A (t0 := 0) (ty := .int) (N' := 32) (a0 := (32, .inl (fun _ => 0))) hx hb hts hK hP hz hS ac_int rfl rfl (fun _ => rfl) (fun _ => rfl) (by decide) rfl (by decide) (Nat.le_of_ble_eq_true rfl) (Nat.le_of_ble_eq_true rfl) dX5_init_15 (fun H hP hz hS => ?_)
  obtain ⟨C3, eC3⟩ : ∃ z : CW, z = cset C2 24 (.inl (y.1, 32, .inl (fun _ => 0))) := ⟨_, rfl⟩
  have hP : va_P D vwCl (wc bs 25 C3) H := by rw [eC3]; exact hP
  have hO : C3 22 = .inr (5, [.int 0, .int 0, .ref (bs + 23), .null, .null, .null, .null]) := by rw [eC3, cset_ne (by decide)]; exact hO
  refine W.eq (g2 := F0 m 17 ls [.ref (bs + 24), .ref (bs + 22)]) rfl ?_
  refine W.widen (k := 2) (n := 64) (by omega) (by omega) ?_
  refine p_F (K := RX5) (T := TX5) (N := 7) (ci := 5) (ty := .array .int) 22 3 tyX5 hx hb hts hown hin2 hK hP hz hS in_X5 tyX5_ok nmX5 rfl (by decide) hO (by decide) fl_52 rfl rfl (by decide +kernel) rfl rfl (Nat.le_of_ble_eq_true rfl) dX5_init_17 (fun H locs hP hz hS => ?_)
  obtain ⟨C4, eC4⟩ : ∃ z : CW, z = cset C3 22 (.inr (5, [.int 0, .int 0, .ref (bs + 23), .ref (bs + 24), .null, .null, .null])) := ⟨_, rfl⟩
  have hP : va_P D vwCl (wc bs 25 C4) H := by rw [eC4]; exact hP
  have hO : C4 22 = .inr (5, [.int 0, .int 0, .ref (bs + 23), .ref (bs + 24), .null, .null, .null]) := by rw [eC4]; exact cset_eq
  refine lv_aload_n hx hb dX5_init_20 rfl (lv_at hl 0 rfl) ?_
  refine lv_bipush (v := (36 : Int32)) hx hb dX5_init_21 (by decide) ?_
  refine n_A (t0 := 0) (ty := .int) (N' := 36) (a0 := (36, .inl (fun _ => 0))) hx hb hts hK hP hz hS ac_int rfl rfl (fun _ => rfl) (fun _ => rfl) (by decide) rfl (by decide) (Nat.le_of_ble_eq_true rfl) (Nat.le_of_ble_eq_true rfl) dX5_init_23 (fun H hP hz hS => ?_)
  obtain ⟨C5, eC5⟩ : ∃ z : CW, z = cset C4 25 (.inl (y.1, 36, .inl (fun _ => 0))) := ⟨_, rfl⟩
  have hP : va_P D vwCl (wc bs 26 C5) H := by rw [eC5]; exact hP
  have hO : C5 22 = .inr (5, [.int 0, .int 0, .ref (bs + 23), .ref (bs + 24), .null, .null, .null]) := by rw [eC5, cset_ne (by decide)]; exact hO
  refine W.eq (g2 := F0 m 25 ls [.ref (bs + 25), .ref (bs + 22)]) rfl ?_
  refine W.widen (k := 3) (n := 100) (by omega) (by omega) ?_
  refine p_F (K := RX5) (T := TX5) (N := 7) (ci := 5) (ty := .array .int) 22 4 tyX5 hx hb hts hown hin2 hK hP hz hS in_X5 tyX5_ok nmX5 rfl (by decide) hO (by decide) fl_53 rfl rfl (by decide +kernel) rfl rfl (Nat.le_of_ble_eq_true rfl) dX5_init_25 (fun H locs hP hz hS => ?_)
  obtain ⟨C6, eC6⟩ : ∃ z : CW, z = cset C5 22 (.inr (5, [.int 0, .int 0, .ref (bs + 23), .ref (bs + 24), .ref (bs + 25), .null, .null])) := ⟨_, rfl⟩
  have hP : va_P D vwCl (wc bs 26 C6) H := by rw [eC6]; exact hP
  have hO : C6 22 = .inr (5, [.int 0, .int 0, .ref (bs + 23), .ref (bs + 24), .ref (bs + 25), .null, .null]) := by rw [eC6]; exact cset_eq
  refine lv_aload_n hx hb dX5_init_28 rfl (lv_at hl 0 rfl) ?_
  refine lv_bipush (v := (32 : Int32)) hx hb dX5_init_29 (by decide) ?_
  refine n_A (t0 := 0) (ty := .int) (N' := 32) (a0 := (32, .inl (fun _ => 0))) hx hb hts hK hP hz hS ac_int rfl rfl (fun _ => rfl) (fun _ => rfl) (by decide) rfl (by decide) (Nat.le_of_ble_eq_true rfl) (Nat.le_of_ble_eq_true rfl) dX5_init_31 (fun H hP hz hS => ?_)
  obtain ⟨C7, eC7⟩ : ∃ z : CW, z = cset C6 26 (.inl (y.1, 32, .inl (fun _ => 0))) := ⟨_, rfl⟩
  have hP : va_P D vwCl (wc bs 27 C7) H := by rw [eC7]; exact hP
  have hO : C7 22 = .inr (5, [.int 0, .int 0, .ref (bs + 23), .ref (bs + 24), .ref (bs + 25), .null, .null]) := by rw [eC7, cset_ne (by decide)]; exact hO
  refine W.eq (g2 := F0 m 33 ls [.ref (bs + 26), .ref (bs + 22)]) rfl ?_
  refine W.widen (k := 4) (n := 132) (by omega) (by omega) ?_
  refine p_F (K := RX5) (T := TX5) (N := 7) (ci := 5) (ty := .array .int) 22 5 tyX5 hx hb hts hown hin2 hK hP hz hS in_X5 tyX5_ok nmX5 rfl (by decide) hO (by decide) fl_51 rfl rfl (by decide +kernel) rfl rfl (Nat.le_of_ble_eq_true rfl) dX5_init_33 (fun H locs hP hz hS => ?_)
  obtain ⟨C8, eC8⟩ : ∃ z : CW, z = cset C7 22 (.inr (5, [.int 0, .int 0, .ref (bs + 23), .ref (bs + 24), .ref (bs + 25), .ref (bs + 26), .null])) := ⟨_, rfl⟩
  have hP : va_P D vwCl (wc bs 27 C8) H := by rw [eC8]; exact hP
  have hO : C8 22 = .inr (5, [.int 0, .int 0, .ref (bs + 23), .ref (bs + 24), .ref (bs + 25), .ref (bs + 26), .null]) := by rw [eC8]; exact cset_eq
  refine lv_aload_n hx hb dX5_init_36 rfl (lv_at hl 0 rfl) ?_
  refine lv_bipush (v := (32 : Int32)) hx hb dX5_init_37 (by decide) ?_
  refine n_A (t0 := 0) (ty := .int) (N' := 32) (a0 := (32, .inl (fun _ => 0))) hx hb hts hK hP hz hS ac_int rfl rfl (fun _ => rfl) (fun _ => rfl) (by decide) rfl (by decide) (Nat.le_of_ble_eq_true rfl) (Nat.le_of_ble_eq_true rfl) dX5_init_39 (fun H hP hz hS => ?_)
  obtain ⟨C9, eC9⟩ : ∃ z : CW, z = cset C8 27 (.inl (y.1, 32, .inl (fun _ => 0))) := ⟨_, rfl⟩
  have hP : va_P D vwCl (wc bs 28 C9) H := by rw [eC9]; exact hP
  have hO : C9 22 = .inr (5, [.int 0, .int 0, .ref (bs + 23), .ref (bs + 24), .ref (bs + 25), .ref (bs + 26), .null]) := by rw [eC9, cset_ne (by decide)]; exact hO
  refine W.eq (g2 := F0 m 41 ls [.ref (bs + 27), .ref (bs + 22)]) rfl ?_
  refine W.widen (k := 5) (n := 164) (by omega) (by omega) ?_
  refine p_F (K := RX5) (T := TX5) (N := 7) (ci := 5) (ty := .array .int) 22 6 tyX5 hx hb hts hown hin2 hK hP hz hS in_X5 tyX5_ok nmX5 rfl (by decide) hO (by decide) fl_47 rfl rfl (by decide +kernel) rfl rfl (Nat.le_of_ble_eq_true rfl) dX5_init_41 (fun H locs hP hz hS => ?_)
  obtain ⟨C10, eC10⟩ : ∃ z : CW, z = cset C9 22 (.inr (5, [.int 0, .int 0, .ref (bs + 23), .ref (bs + 24), .ref (bs + 25), .ref (bs + 26), .ref (bs + 27)])) := ⟨_, rfl⟩
  have hP : va_P D vwCl (wc bs 28 C10) H := by rw [eC10]; exact hP
  have hO : C10 22 = .inr (5, [.int 0, .int 0, .ref (bs + 23), .ref (bs + 24), .ref (bs + 25), .ref (bs + 26), .ref (bs + 27)]) := by rw [eC10]; exact cset_eq
  refine r_C hx hb hr hlocks hP hz hK hN hL hS ⟨fun a h1 h2 => ?_, fun a h1 => ?_⟩ dX5_init_44
  · rw [eC10, cset_ne (show a ≠ 22 by omega), eC9, cset_ne (show a ≠ 27 by omega), eC8, cset_ne (show a ≠ 22 by omega), eC7, cset_ne (show a ≠ 26 by omega), eC6, cset_ne (show a ≠ 22 by omega), eC5, cset_ne (show a ≠ 25 by omega), eC4, cset_ne (show a ≠ 22 by omega), eC3, cset_ne (show a ≠ 24 by omega), eC2, cset_ne (show a ≠ 22 by omega), eC1, cset_ne (show a ≠ 23 by omega)]
  · have h3 : a = 22 ∨ a = 23 ∨ a = 24 ∨ a = 25 ∨ a = 26 ∨ a = 27 := by omega
    rcases h3 with rfl | rfl | rfl | rfl | rfl | rfl
    · exact hO.trans tg_22.symm
    · rw [eC10, cset_ne (by decide), eC9, cset_ne (by decide), eC8, cset_ne (by decide), eC7, cset_ne (by decide), eC6, cset_ne (by decide), eC5, cset_ne (by decide), eC4, cset_ne (by decide), eC3, cset_ne (by decide), eC2, cset_ne (by decide), eC1, cset_eq]; exact tg_23.symm
    · rw [eC10, cset_ne (by decide), eC9, cset_ne (by decide), eC8, cset_ne (by decide), eC7, cset_ne (by decide), eC6, cset_ne (by decide), eC5, cset_ne (by decide), eC4, cset_ne (by decide), eC3, cset_eq]; exact tg_24.symm
    · rw [eC10, cset_ne (by decide), eC9, cset_ne (by decide), eC8, cset_ne (by decide), eC7, cset_ne (by decide), eC6, cset_ne (by decide), eC5, cset_eq]; exact tg_25.symm
    · rw [eC10, cset_ne (by decide), eC9, cset_ne (by decide), eC8, cset_ne (by decide), eC7, cset_eq]; exact tg_26.symm
    · rw [eC10, cset_ne (by decide), eC9, cset_eq]; exact tg_27.symm
theorem ok_X8_init : okC yX8_init cX8_init 1 none 0 := ⟨gtb_mem (List.mem_append_right _ (List.mem_of_getElem? (i := 236) (by decide +kernel))) rfl, gtb_mem (List.mem_append_right _ (List.mem_of_getElem? (i := 7) (by decide +kernel))) rfl, by decide +kernel⟩
theorem oi_X8_init : Cond.instanceMethod yX8_init ∈ gtb := gtb_mem (List.mem_append_right _ (List.mem_of_getElem? (i := 235) (by decide +kernel))) rfl
theorem dX8_init_0 : decode cX8_init 0 = .ok (.aload_n 0, 1) := by decide +kernel
theorem dX8_init_1 : decode cX8_init 1 = .ok (.invokespecial 3, 3) := by decide +kernel
theorem dX8_init_4 : decode cX8_init 4 = .ok (.aload_n 0, 1) := by decide +kernel
theorem dX8_init_5 : decode cX8_init 5 = .ok (.bipush 60, 2) := by decide +kernel
theorem dX8_init_7 : decode cX8_init 7 = .ok (.newarray .int, 2) := by decide +kernel
theorem dX8_init_9 : decode cX8_init 9 = .ok (.putfield 9, 3) := by decide +kernel
theorem dX8_init_12 : decode cX8_init 12 = .ok (.aload_n 0, 1) := by decide +kernel
theorem dX8_init_13 : decode cX8_init 13 = .ok (.bipush 60, 2) := by decide +kernel
theorem dX8_init_15 : decode cX8_init 15 = .ok (.newarray .int, 2) := by decide +kernel
theorem dX8_init_17 : decode cX8_init 17 = .ok (.putfield 15, 3) := by decide +kernel
theorem dX8_init_20 : decode cX8_init 20 = .ok (.aload_n 0, 1) := by decide +kernel
theorem dX8_init_21 : decode cX8_init 21 = .ok (.bipush 32, 2) := by decide +kernel
theorem dX8_init_23 : decode cX8_init 23 = .ok (.newarray .long, 2) := by decide +kernel
theorem dX8_init_25 : decode cX8_init 25 = .ok (.putfield 18, 3) := by decide +kernel
theorem dX8_init_28 : decode cX8_init 28 = .ok (.aload_n 0, 1) := by decide +kernel
theorem dX8_init_29 : decode cX8_init 29 = .ok (.bipush 60, 2) := by decide +kernel
theorem dX8_init_31 : decode cX8_init 31 = .ok (.newarray .int, 2) := by decide +kernel
theorem dX8_init_33 : decode cX8_init 33 = .ok (.putfield 22, 3) := by decide +kernel
theorem dX8_init_36 : decode cX8_init 36 = .ok (.aload_n 0, 1) := by decide +kernel
theorem dX8_init_37 : decode cX8_init 37 = .ok (.bipush 36, 2) := by decide +kernel
theorem dX8_init_39 : decode cX8_init 39 = .ok (.newarray .int, 2) := by decide +kernel
theorem dX8_init_41 : decode cX8_init 41 = .ok (.putfield 25, 3) := by decide +kernel
theorem dX8_init_44 : decode cX8_init 44 = .ok (.return_, 1) := by decide +kernel
theorem ml_249 : Cond.methodLink RX8 3 objectInit ∈ gtb := gtb_mem (List.mem_append_right _ (List.mem_of_getElem? (i := 237) (by decide +kernel))) rfl
set_option maxHeartbeats 4000000 in
set_option maxRecDepth 100000 in
theorem iX8_init_ (l : Launch) (bs : Nat) (D : va_G) (y : Y3) (C : CW) (hO : C 28 = .inr (8, [.int 0, .null, .null, .null, .null, .null])) : Met l yX8_init (.code yX8_init cX8_init 1 none :: gtb) ({ frames := 1, cells := 5, slots := 248, locals := 20 } : Room) (va_Pc [.ref (bs + 28)] (HC bs D y 29 C)) (va_Qv (fun C1 => (∀ a, a < 29 → a ≠ 28 → C1 a = C a) ∧ ∀ a, (a = 28 ∨ (29 ≤ a ∧ a < 34)) → C1 a = cE bs y zI zJ a) (fun C1 t => HC bs D y 34 C1 t) (FA bs)) 5 248 (FA bs) := by
  refine Met.ofW (cc := cX8_init) (maxL := 1) (ret := none) (by decide) rfl ?_
  intro p e s m args below meth c s₁ B hml hv
  obtain ⟨rfl, hz, hP, hK, hN, hL⟩ := hv
  have hx := B.exec
  have hb := B.bytes
  have hr := B.returns
  have hts0 := atoms_spec (ws := .code yX8_init cX8_init 1 none :: gtb) B.pre
  have hts : ∀ w ∈ gtb, w.before [.ref (bs + 28)].toArray s = true := fun w hw => hts0 w (List.mem_cons_of_mem _ hw)
  have hown : s.vm.findClass RX8 = some m.cls := findClass_of_methodNamed B.named
  have hlocks := B.notSynchronized
  have hin2 : meth.name = "<init>" := (name_of_methodNamed B.named B.method).1
  have hS : va_S (FA bs) s.heap s.heap [] := va_S.rf
  have hl := lv_entry [.ref (bs + 28)] (n := 1) (Nat.le_of_ble_eq_true rfl)
  rw [lg_entry_eq]
  generalize (lg_sl [.ref (bs + 28)] ++ List.replicate (1 - (lg_sl [.ref (bs + 28)]).length) Slot.unset).toArray = ls at hl ⊢
  have hl : lv_has ls 1 [(0, .ref (bs + 28))] := hl
  change W p l e ({ frames := 1, cells := 5, slots := 248, locals := 20 } : Room) s m [.ref (bs + 28)].toArray below meth c s.heap [] 0 0 _ (F0 m 0 ls [])
  refine lv_aload_n hx hb dX8_init_0 rfl (lv_at hl 0 rfl) ?_
  refine W.objInit hx hb hown (hts _ ml_249) (hts _ oi_inst) (hts _ oi_code) rfl (by rw [hml]; exact hl.1) rfl dX8_init_1 (Nat.le_of_ble_eq_true rfl) (Nat.le_of_ble_eq_true rfl) ?_
  refine W.eq (g2 := F0 m 4 ls []) rfl ?_
  refine lv_aload_n hx hb dX8_init_4 rfl (lv_at hl 0 rfl) ?_
  refine lv_bipush (v := (60 : Int32)) hx hb dX8_init_5 (by decide) ?_
  refine n_A (t0 := 0) (ty := .int) (N' := 60) (a0 := (60, .inl (fun _ => 0))) hx hb hts hK hP hz hS ac_int rfl rfl (fun _ => rfl) (fun _ => rfl) (by decide) rfl (by decide) (Nat.le_of_ble_eq_true rfl) (Nat.le_of_ble_eq_true rfl) dX8_init_7 (fun H hP hz hS => ?_)
  obtain ⟨C1, eC1⟩ : ∃ z : CW, z = cset C 29 (.inl (y.1, 60, .inl (fun _ => 0))) := ⟨_, rfl⟩
  have hP : va_P D vwCl (wc bs 30 C1) H := by rw [eC1]; exact hP
  have hO : C1 28 = .inr (8, [.int 0, .null, .null, .null, .null, .null]) := by rw [eC1, cset_ne (by decide)]; exact hO
  refine W.eq (g2 := F0 m 9 ls [.ref (bs + 29), .ref (bs + 28)]) rfl ?_
  refine W.widen (k := 1) (n := 60) (by omega) (by omega) ?_
  refine p_F (K := RX8) (T := TX8) (N := 6) (ci := 8) (ty := .array .int) 28 1 tyX8 hx hb hts hown hin2 hK hP hz hS in_X8 tyX8_ok nmX8 rfl (by decide) hO (by decide) fl_84 rfl rfl (by decide +kernel) rfl rfl (Nat.le_of_ble_eq_true rfl) dX8_init_9 (fun H locs hP hz hS => ?_)
  obtain ⟨C2, eC2⟩ : ∃ z : CW, z = cset C1 28 (.inr (8, [.int 0, .ref (bs + 29), .null, .null, .null, .null])) := ⟨_, rfl⟩
  have hP : va_P D vwCl (wc bs 30 C2) H := by rw [eC2]; exact hP
  have hO : C2 28 = .inr (8, [.int 0, .ref (bs + 29), .null, .null, .null, .null]) := by rw [eC2]; exact cset_eq
  refine lv_aload_n hx hb dX8_init_12 rfl (lv_at hl 0 rfl) ?_
  refine lv_bipush (v := (60 : Int32)) hx hb dX8_init_13 (by decide) ?_
  refine n_A (t0 := 0) (ty := .int) (N' := 60) (a0 := (60, .inl (fun _ => 0))) hx hb hts hK hP hz hS ac_int rfl rfl (fun _ => rfl) (fun _ => rfl) (by decide) rfl (by decide) (Nat.le_of_ble_eq_true rfl) (Nat.le_of_ble_eq_true rfl) dX8_init_15 (fun H hP hz hS => ?_)
  obtain ⟨C3, eC3⟩ : ∃ z : CW, z = cset C2 30 (.inl (y.1, 60, .inl (fun _ => 0))) := ⟨_, rfl⟩
  have hP : va_P D vwCl (wc bs 31 C3) H := by rw [eC3]; exact hP
  have hO : C3 28 = .inr (8, [.int 0, .ref (bs + 29), .null, .null, .null, .null]) := by rw [eC3, cset_ne (by decide)]; exact hO
  refine W.eq (g2 := F0 m 17 ls [.ref (bs + 30), .ref (bs + 28)]) rfl ?_
  refine W.widen (k := 2) (n := 120) (by omega) (by omega) ?_
  refine p_F (K := RX8) (T := TX8) (N := 6) (ci := 8) (ty := .array .int) 28 2 tyX8 hx hb hts hown hin2 hK hP hz hS in_X8 tyX8_ok nmX8 rfl (by decide) hO (by decide) fl_86 rfl rfl (by decide +kernel) rfl rfl (Nat.le_of_ble_eq_true rfl) dX8_init_17 (fun H locs hP hz hS => ?_)
  obtain ⟨C4, eC4⟩ : ∃ z : CW, z = cset C3 28 (.inr (8, [.int 0, .ref (bs + 29), .ref (bs + 30), .null, .null, .null])) := ⟨_, rfl⟩
  have hP : va_P D vwCl (wc bs 31 C4) H := by rw [eC4]; exact hP
  have hO : C4 28 = .inr (8, [.int 0, .ref (bs + 29), .ref (bs + 30), .null, .null, .null]) := by rw [eC4]; exact cset_eq
  refine lv_aload_n hx hb dX8_init_20 rfl (lv_at hl 0 rfl) ?_
  refine lv_bipush (v := (32 : Int32)) hx hb dX8_init_21 (by decide) ?_
  refine n_A (t0 := 1) (ty := .long) (N' := 32) (a0 := (32, .inr (.inl (fun _ => 0)))) hx hb hts hK hP hz hS ac_long rfl rfl (fun _ => rfl) (fun _ => rfl) (by decide) rfl (by decide) (Nat.le_of_ble_eq_true rfl) (Nat.le_of_ble_eq_true rfl) dX8_init_23 (fun H hP hz hS => ?_)
  obtain ⟨C5, eC5⟩ : ∃ z : CW, z = cset C4 31 (.inl (y.2.1, 32, .inr (.inl (fun _ => 0)))) := ⟨_, rfl⟩
  have hP : va_P D vwCl (wc bs 32 C5) H := by rw [eC5]; exact hP
  have hO : C5 28 = .inr (8, [.int 0, .ref (bs + 29), .ref (bs + 30), .null, .null, .null]) := by rw [eC5, cset_ne (by decide)]; exact hO
  refine W.eq (g2 := F0 m 25 ls [.ref (bs + 31), .ref (bs + 28)]) rfl ?_
  refine W.widen (k := 3) (n := 152) (by omega) (by omega) ?_
  refine p_F (K := RX8) (T := TX8) (N := 6) (ci := 8) (ty := .array .long) 28 3 tyX8 hx hb hts hown hin2 hK hP hz hS in_X8 tyX8_ok nmX8 rfl (by decide) hO (by decide) fl_83 rfl rfl (by decide +kernel) rfl rfl (Nat.le_of_ble_eq_true rfl) dX8_init_25 (fun H locs hP hz hS => ?_)
  obtain ⟨C6, eC6⟩ : ∃ z : CW, z = cset C5 28 (.inr (8, [.int 0, .ref (bs + 29), .ref (bs + 30), .ref (bs + 31), .null, .null])) := ⟨_, rfl⟩
  have hP : va_P D vwCl (wc bs 32 C6) H := by rw [eC6]; exact hP
  have hO : C6 28 = .inr (8, [.int 0, .ref (bs + 29), .ref (bs + 30), .ref (bs + 31), .null, .null]) := by rw [eC6]; exact cset_eq
  refine lv_aload_n hx hb dX8_init_28 rfl (lv_at hl 0 rfl) ?_
  refine lv_bipush (v := (60 : Int32)) hx hb dX8_init_29 (by decide) ?_
  refine n_A (t0 := 0) (ty := .int) (N' := 60) (a0 := (60, .inl (fun _ => 0))) hx hb hts hK hP hz hS ac_int rfl rfl (fun _ => rfl) (fun _ => rfl) (by decide) rfl (by decide) (Nat.le_of_ble_eq_true rfl) (Nat.le_of_ble_eq_true rfl) dX8_init_31 (fun H hP hz hS => ?_)
  obtain ⟨C7, eC7⟩ : ∃ z : CW, z = cset C6 32 (.inl (y.1, 60, .inl (fun _ => 0))) := ⟨_, rfl⟩
  have hP : va_P D vwCl (wc bs 33 C7) H := by rw [eC7]; exact hP
  have hO : C7 28 = .inr (8, [.int 0, .ref (bs + 29), .ref (bs + 30), .ref (bs + 31), .null, .null]) := by rw [eC7, cset_ne (by decide)]; exact hO
  refine W.eq (g2 := F0 m 33 ls [.ref (bs + 32), .ref (bs + 28)]) rfl ?_
  refine W.widen (k := 4) (n := 212) (by omega) (by omega) ?_
  refine p_F (K := RX8) (T := TX8) (N := 6) (ci := 8) (ty := .array .int) 28 4 tyX8 hx hb hts hown hin2 hK hP hz hS in_X8 tyX8_ok nmX8 rfl (by decide) hO (by decide) fl_85 rfl rfl (by decide +kernel) rfl rfl (Nat.le_of_ble_eq_true rfl) dX8_init_33 (fun H locs hP hz hS => ?_)
  obtain ⟨C8, eC8⟩ : ∃ z : CW, z = cset C7 28 (.inr (8, [.int 0, .ref (bs + 29), .ref (bs + 30), .ref (bs + 31), .ref (bs + 32), .null])) := ⟨_, rfl⟩
  have hP : va_P D vwCl (wc bs 33 C8) H := by rw [eC8]; exact hP
  have hO : C8 28 = .inr (8, [.int 0, .ref (bs + 29), .ref (bs + 30), .ref (bs + 31), .ref (bs + 32), .null]) := by rw [eC8]; exact cset_eq
  refine lv_aload_n hx hb dX8_init_36 rfl (lv_at hl 0 rfl) ?_
  refine lv_bipush (v := (36 : Int32)) hx hb dX8_init_37 (by decide) ?_
  refine n_A (t0 := 0) (ty := .int) (N' := 36) (a0 := (36, .inl (fun _ => 0))) hx hb hts hK hP hz hS ac_int rfl rfl (fun _ => rfl) (fun _ => rfl) (by decide) rfl (by decide) (Nat.le_of_ble_eq_true rfl) (Nat.le_of_ble_eq_true rfl) dX8_init_39 (fun H hP hz hS => ?_)
  obtain ⟨C9, eC9⟩ : ∃ z : CW, z = cset C8 33 (.inl (y.1, 36, .inl (fun _ => 0))) := ⟨_, rfl⟩
  have hP : va_P D vwCl (wc bs 34 C9) H := by rw [eC9]; exact hP
  have hO : C9 28 = .inr (8, [.int 0, .ref (bs + 29), .ref (bs + 30), .ref (bs + 31), .ref (bs + 32), .null]) := by rw [eC9, cset_ne (by decide)]; exact hO
  refine W.eq (g2 := F0 m 41 ls [.ref (bs + 33), .ref (bs + 28)]) rfl ?_
  refine W.widen (k := 5) (n := 248) (by omega) (by omega) ?_
  refine p_F (K := RX8) (T := TX8) (N := 6) (ci := 8) (ty := .array .int) 28 5 tyX8 hx hb hts hown hin2 hK hP hz hS in_X8 tyX8_ok nmX8 rfl (by decide) hO (by decide) fl_88 rfl rfl (by decide +kernel) rfl rfl (Nat.le_of_ble_eq_true rfl) dX8_init_41 (fun H locs hP hz hS => ?_)
  obtain ⟨C10, eC10⟩ : ∃ z : CW, z = cset C9 28 (.inr (8, [.int 0, .ref (bs + 29), .ref (bs + 30), .ref (bs + 31), .ref (bs + 32), .ref (bs + 33)])) := ⟨_, rfl⟩
  have hP : va_P D vwCl (wc bs 34 C10) H := by rw [eC10]; exact hP
  have hO : C10 28 = .inr (8, [.int 0, .ref (bs + 29), .ref (bs + 30), .ref (bs + 31), .ref (bs + 32), .ref (bs + 33)]) := by rw [eC10]; exact cset_eq
  refine r_C hx hb hr hlocks hP hz hK hN hL hS ⟨fun a h1 h2 => ?_, fun a h1 => ?_⟩ dX8_init_44
  · rw [eC10, cset_ne (show a ≠ 28 by omega), eC9, cset_ne (show a ≠ 33 by omega), eC8, cset_ne (show a ≠ 28 by omega), eC7, cset_ne (show a ≠ 32 by omega), eC6, cset_ne (show a ≠ 28 by omega), eC5, cset_ne (show a ≠ 31 by omega), eC4, cset_ne (show a ≠ 28 by omega), eC3, cset_ne (show a ≠ 30 by omega), eC2, cset_ne (show a ≠ 28 by omega), eC1, cset_ne (show a ≠ 29 by omega)]
  · have h3 : a = 28 ∨ a = 29 ∨ a = 30 ∨ a = 31 ∨ a = 32 ∨ a = 33 := by omega
    rcases h3 with rfl | rfl | rfl | rfl | rfl | rfl
    · exact hO.trans tg_28.symm
    · rw [eC10, cset_ne (by decide), eC9, cset_ne (by decide), eC8, cset_ne (by decide), eC7, cset_ne (by decide), eC6, cset_ne (by decide), eC5, cset_ne (by decide), eC4, cset_ne (by decide), eC3, cset_ne (by decide), eC2, cset_ne (by decide), eC1, cset_eq]; exact tg_29.symm
    · rw [eC10, cset_ne (by decide), eC9, cset_ne (by decide), eC8, cset_ne (by decide), eC7, cset_ne (by decide), eC6, cset_ne (by decide), eC5, cset_ne (by decide), eC4, cset_ne (by decide), eC3, cset_eq]; exact tg_30.symm
    · rw [eC10, cset_ne (by decide), eC9, cset_ne (by decide), eC8, cset_ne (by decide), eC7, cset_ne (by decide), eC6, cset_ne (by decide), eC5, cset_eq]; exact tg_31.symm
    · rw [eC10, cset_ne (by decide), eC9, cset_ne (by decide), eC8, cset_ne (by decide), eC7, cset_eq]; exact tg_32.symm
    · rw [eC10, cset_ne (by decide), eC9, cset_eq]; exact tg_33.symm
theorem ok_X1_init : okC yX1_init cX1_init 1 none 0 := ⟨gtb_mem (List.mem_append_right _ (List.mem_of_getElem? (i := 264) (by decide +kernel))) rfl, gtb_mem (List.mem_append_right _ (List.mem_of_getElem? (i := 8) (by decide +kernel))) rfl, by decide +kernel⟩
theorem oi_X1_init : Cond.instanceMethod yX1_init ∈ gtb := gtb_mem (List.mem_append_right _ (List.mem_of_getElem? (i := 263) (by decide +kernel))) rfl
theorem dX1_init_0 : decode cX1_init 0 = .ok (.aload_n 0, 1) := by decide +kernel
theorem dX1_init_1 : decode cX1_init 1 = .ok (.invokespecial 3, 3) := by decide +kernel
theorem dX1_init_4 : decode cX1_init 4 = .ok (.aload_n 0, 1) := by decide +kernel
theorem dX1_init_5 : decode cX1_init 5 = .ok (.sipush 324, 3) := by decide +kernel
theorem dX1_init_8 : decode cX1_init 8 = .ok (.newarray .int, 2) := by decide +kernel
theorem dX1_init_10 : decode cX1_init 10 = .ok (.putfield 9, 3) := by decide +kernel
theorem dX1_init_13 : decode cX1_init 13 = .ok (.aload_n 0, 1) := by decide +kernel
theorem dX1_init_14 : decode cX1_init 14 = .ok (.bipush 37, 2) := by decide +kernel
theorem dX1_init_16 : decode cX1_init 16 = .ok (.newarray .int, 2) := by decide +kernel
theorem dX1_init_18 : decode cX1_init 18 = .ok (.putfield 15, 3) := by decide +kernel
theorem dX1_init_21 : decode cX1_init 21 = .ok (.aload_n 0, 1) := by decide +kernel
theorem dX1_init_22 : decode cX1_init 22 = .ok (.bipush 32, 2) := by decide +kernel
theorem dX1_init_24 : decode cX1_init 24 = .ok (.newarray .int, 2) := by decide +kernel
theorem dX1_init_26 : decode cX1_init 26 = .ok (.putfield 18, 3) := by decide +kernel
theorem dX1_init_29 : decode cX1_init 29 = .ok (.return_, 1) := by decide +kernel
theorem ml_250 : Cond.methodLink RX1 3 objectInit ∈ gtb := gtb_mem (List.mem_append_right _ (List.mem_of_getElem? (i := 265) (by decide +kernel))) rfl
set_option maxHeartbeats 4000000 in
set_option maxRecDepth 100000 in
theorem iX1_init_ (l : Launch) (bs : Nat) (D : va_G) (y : Y3) (C : CW) (hO : C 34 = .inr (1, [.int 0, .int 0, .null, .null, .null])) : Met l yX1_init (.code yX1_init cX1_init 1 none :: gtb) ({ frames := 1, cells := 3, slots := 393, locals := 20 } : Room) (va_Pc [.ref (bs + 34)] (HC bs D y 35 C)) (va_Qv (fun C1 => (∀ a, a < 35 → a ≠ 34 → C1 a = C a) ∧ ∀ a, (a = 34 ∨ (35 ≤ a ∧ a < 38)) → C1 a = cE bs y zI zJ a) (fun C1 t => HC bs D y 38 C1 t) (FA bs)) 3 393 (FA bs) := by
  refine Met.ofW (cc := cX1_init) (maxL := 1) (ret := none) (by decide) rfl ?_
  intro p e s m args below meth c s₁ B hml hv
  obtain ⟨rfl, hz, hP, hK, hN, hL⟩ := hv
  have hx := B.exec
  have hb := B.bytes
  have hr := B.returns
  have hts0 := atoms_spec (ws := .code yX1_init cX1_init 1 none :: gtb) B.pre
  have hts : ∀ w ∈ gtb, w.before [.ref (bs + 34)].toArray s = true := fun w hw => hts0 w (List.mem_cons_of_mem _ hw)
  have hown : s.vm.findClass RX1 = some m.cls := findClass_of_methodNamed B.named
  have hlocks := B.notSynchronized
  have hin2 : meth.name = "<init>" := (name_of_methodNamed B.named B.method).1
  have hS : va_S (FA bs) s.heap s.heap [] := va_S.rf
  have hl := lv_entry [.ref (bs + 34)] (n := 1) (Nat.le_of_ble_eq_true rfl)
  rw [lg_entry_eq]
  generalize (lg_sl [.ref (bs + 34)] ++ List.replicate (1 - (lg_sl [.ref (bs + 34)]).length) Slot.unset).toArray = ls at hl ⊢
  have hl : lv_has ls 1 [(0, .ref (bs + 34))] := hl
  change W p l e ({ frames := 1, cells := 3, slots := 393, locals := 20 } : Room) s m [.ref (bs + 34)].toArray below meth c s.heap [] 0 0 _ (F0 m 0 ls [])
  refine lv_aload_n hx hb dX1_init_0 rfl (lv_at hl 0 rfl) ?_
  refine W.objInit hx hb hown (hts _ ml_250) (hts _ oi_inst) (hts _ oi_code) rfl (by rw [hml]; exact hl.1) rfl dX1_init_1 (Nat.le_of_ble_eq_true rfl) (Nat.le_of_ble_eq_true rfl) ?_
  refine W.eq (g2 := F0 m 4 ls []) rfl ?_
  refine lv_aload_n hx hb dX1_init_4 rfl (lv_at hl 0 rfl) ?_
  refine lv_sipush (v := (324 : Int32)) hx hb dX1_init_5 (by decide) ?_
  refine n_A (t0 := 0) (ty := .int) (N' := 324) (a0 := (324, .inl (fun _ => 0))) hx hb hts hK hP hz hS ac_int rfl rfl (fun _ => rfl) (fun _ => rfl) (by decide) rfl (by decide) (Nat.le_of_ble_eq_true rfl) (Nat.le_of_ble_eq_true rfl) dX1_init_8 (fun H hP hz hS => ?_)
  obtain ⟨C1, eC1⟩ : ∃ z : CW, z = cset C 35 (.inl (y.1, 324, .inl (fun _ => 0))) := ⟨_, rfl⟩
  have hP : va_P D vwCl (wc bs 36 C1) H := by rw [eC1]; exact hP
  have hO : C1 34 = .inr (1, [.int 0, .int 0, .null, .null, .null]) := by rw [eC1, cset_ne (by decide)]; exact hO
  refine W.eq (g2 := F0 m 10 ls [.ref (bs + 35), .ref (bs + 34)]) rfl ?_
  refine W.widen (k := 1) (n := 324) (by omega) (by omega) ?_
  refine p_F (K := RX1) (T := TX1) (N := 5) (ci := 1) (ty := .array .int) 34 2 tyX1 hx hb hts hown hin2 hK hP hz hS in_X1 tyX1_ok nmX1 rfl (by decide) hO (by decide) fl_4 rfl rfl (by decide +kernel) rfl rfl (Nat.le_of_ble_eq_true rfl) dX1_init_10 (fun H locs hP hz hS => ?_)
  obtain ⟨C2, eC2⟩ : ∃ z : CW, z = cset C1 34 (.inr (1, [.int 0, .int 0, .ref (bs + 35), .null, .null])) := ⟨_, rfl⟩
  have hP : va_P D vwCl (wc bs 36 C2) H := by rw [eC2]; exact hP
  have hO : C2 34 = .inr (1, [.int 0, .int 0, .ref (bs + 35), .null, .null]) := by rw [eC2]; exact cset_eq
  refine lv_aload_n hx hb dX1_init_13 rfl (lv_at hl 0 rfl) ?_
  refine lv_bipush (v := (37 : Int32)) hx hb dX1_init_14 (by decide) ?_
  refine n_A (t0 := 0) (ty := .int) (N' := 37) (a0 := (37, .inl (fun _ => 0))) hx hb hts hK hP hz hS ac_int rfl rfl (fun _ => rfl) (fun _ => rfl) (by decide) rfl (by decide) (Nat.le_of_ble_eq_true rfl) (Nat.le_of_ble_eq_true rfl) dX1_init_16 (fun H hP hz hS => ?_)
  obtain ⟨C3, eC3⟩ : ∃ z : CW, z = cset C2 36 (.inl (y.1, 37, .inl (fun _ => 0))) := ⟨_, rfl⟩
  have hP : va_P D vwCl (wc bs 37 C3) H := by rw [eC3]; exact hP
  have hO : C3 34 = .inr (1, [.int 0, .int 0, .ref (bs + 35), .null, .null]) := by rw [eC3, cset_ne (by decide)]; exact hO
  refine W.eq (g2 := F0 m 18 ls [.ref (bs + 36), .ref (bs + 34)]) rfl ?_
  refine W.widen (k := 2) (n := 361) (by omega) (by omega) ?_
  refine p_F (K := RX1) (T := TX1) (N := 5) (ci := 1) (ty := .array .int) 34 3 tyX1 hx hb hts hown hin2 hK hP hz hS in_X1 tyX1_ok nmX1 rfl (by decide) hO (by decide) fl_13 rfl rfl (by decide +kernel) rfl rfl (Nat.le_of_ble_eq_true rfl) dX1_init_18 (fun H locs hP hz hS => ?_)
  obtain ⟨C4, eC4⟩ : ∃ z : CW, z = cset C3 34 (.inr (1, [.int 0, .int 0, .ref (bs + 35), .ref (bs + 36), .null])) := ⟨_, rfl⟩
  have hP : va_P D vwCl (wc bs 37 C4) H := by rw [eC4]; exact hP
  have hO : C4 34 = .inr (1, [.int 0, .int 0, .ref (bs + 35), .ref (bs + 36), .null]) := by rw [eC4]; exact cset_eq
  refine lv_aload_n hx hb dX1_init_21 rfl (lv_at hl 0 rfl) ?_
  refine lv_bipush (v := (32 : Int32)) hx hb dX1_init_22 (by decide) ?_
  refine n_A (t0 := 0) (ty := .int) (N' := 32) (a0 := (32, .inl (fun _ => 0))) hx hb hts hK hP hz hS ac_int rfl rfl (fun _ => rfl) (fun _ => rfl) (by decide) rfl (by decide) (Nat.le_of_ble_eq_true rfl) (Nat.le_of_ble_eq_true rfl) dX1_init_24 (fun H hP hz hS => ?_)
  obtain ⟨C5, eC5⟩ : ∃ z : CW, z = cset C4 37 (.inl (y.1, 32, .inl (fun _ => 0))) := ⟨_, rfl⟩
  have hP : va_P D vwCl (wc bs 38 C5) H := by rw [eC5]; exact hP
  have hO : C5 34 = .inr (1, [.int 0, .int 0, .ref (bs + 35), .ref (bs + 36), .null]) := by rw [eC5, cset_ne (by decide)]; exact hO
  refine W.eq (g2 := F0 m 26 ls [.ref (bs + 37), .ref (bs + 34)]) rfl ?_
  refine W.widen (k := 3) (n := 393) (by omega) (by omega) ?_
  refine p_F (K := RX1) (T := TX1) (N := 5) (ci := 1) (ty := .array .int) 34 4 tyX1 hx hb hts hown hin2 hK hP hz hS in_X1 tyX1_ok nmX1 rfl (by decide) hO (by decide) fl_10 rfl rfl (by decide +kernel) rfl rfl (Nat.le_of_ble_eq_true rfl) dX1_init_26 (fun H locs hP hz hS => ?_)
  obtain ⟨C6, eC6⟩ : ∃ z : CW, z = cset C5 34 (.inr (1, [.int 0, .int 0, .ref (bs + 35), .ref (bs + 36), .ref (bs + 37)])) := ⟨_, rfl⟩
  have hP : va_P D vwCl (wc bs 38 C6) H := by rw [eC6]; exact hP
  have hO : C6 34 = .inr (1, [.int 0, .int 0, .ref (bs + 35), .ref (bs + 36), .ref (bs + 37)]) := by rw [eC6]; exact cset_eq
  refine r_C hx hb hr hlocks hP hz hK hN hL hS ⟨fun a h1 h2 => ?_, fun a h1 => ?_⟩ dX1_init_29
  · rw [eC6, cset_ne (show a ≠ 34 by omega), eC5, cset_ne (show a ≠ 37 by omega), eC4, cset_ne (show a ≠ 34 by omega), eC3, cset_ne (show a ≠ 36 by omega), eC2, cset_ne (show a ≠ 34 by omega), eC1, cset_ne (show a ≠ 35 by omega)]
  · have h3 : a = 34 ∨ a = 35 ∨ a = 36 ∨ a = 37 := by omega
    rcases h3 with rfl | rfl | rfl | rfl
    · exact hO.trans tg_34.symm
    · rw [eC6, cset_ne (by decide), eC5, cset_ne (by decide), eC4, cset_ne (by decide), eC3, cset_ne (by decide), eC2, cset_ne (by decide), eC1, cset_eq]; exact tg_35.symm
    · rw [eC6, cset_ne (by decide), eC5, cset_ne (by decide), eC4, cset_ne (by decide), eC3, cset_eq]; exact tg_36.symm
    · rw [eC6, cset_ne (by decide), eC5, cset_eq]; exact tg_37.symm
theorem ok_X6_init : okC yX6_init cX6_init 1 none 0 := ⟨gtb_mem (List.mem_append_right _ (List.mem_of_getElem? (i := 290) (by decide +kernel))) rfl, gtb_mem (List.mem_append_right _ (List.mem_of_getElem? (i := 9) (by decide +kernel))) rfl, by decide +kernel⟩
theorem oi_X6_init : Cond.instanceMethod yX6_init ∈ gtb := gtb_mem (List.mem_append_right _ (List.mem_of_getElem? (i := 289) (by decide +kernel))) rfl
theorem dX6_init_0 : decode cX6_init 0 = .ok (.aload_n 0, 1) := by decide +kernel
theorem dX6_init_1 : decode cX6_init 1 = .ok (.invokespecial 3, 3) := by decide +kernel
theorem dX6_init_4 : decode cX6_init 4 = .ok (.aload_n 0, 1) := by decide +kernel
theorem dX6_init_5 : decode cX6_init 5 = .ok (.bipush 32, 2) := by decide +kernel
theorem dX6_init_7 : decode cX6_init 7 = .ok (.newarray .int, 2) := by decide +kernel
theorem dX6_init_9 : decode cX6_init 9 = .ok (.putfield 9, 3) := by decide +kernel
theorem dX6_init_12 : decode cX6_init 12 = .ok (.aload_n 0, 1) := by decide +kernel
theorem dX6_init_13 : decode cX6_init 13 = .ok (.bipush 32, 2) := by decide +kernel
theorem dX6_init_15 : decode cX6_init 15 = .ok (.newarray .int, 2) := by decide +kernel
theorem dX6_init_17 : decode cX6_init 17 = .ok (.putfield 15, 3) := by decide +kernel
theorem dX6_init_20 : decode cX6_init 20 = .ok (.return_, 1) := by decide +kernel
theorem ml_251 : Cond.methodLink RX6 3 objectInit ∈ gtb := gtb_mem (List.mem_append_right _ (List.mem_of_getElem? (i := 291) (by decide +kernel))) rfl
set_option maxHeartbeats 4000000 in
set_option maxRecDepth 100000 in
theorem iX6_init_ (l : Launch) (bs : Nat) (D : va_G) (y : Y3) (C : CW) (hO : C 38 = .inr (6, [.int 0, .int 0, .int 0, .int 0, .null, .null])) : Met l yX6_init (.code yX6_init cX6_init 1 none :: gtb) ({ frames := 1, cells := 2, slots := 64, locals := 20 } : Room) (va_Pc [.ref (bs + 38)] (HC bs D y 39 C)) (va_Qv (fun C1 => (∀ a, a < 39 → a ≠ 38 → C1 a = C a) ∧ ∀ a, (a = 38 ∨ (39 ≤ a ∧ a < 41)) → C1 a = cE bs y zI zJ a) (fun C1 t => HC bs D y 41 C1 t) (FA bs)) 2 64 (FA bs) := by
  refine Met.ofW (cc := cX6_init) (maxL := 1) (ret := none) (by decide) rfl ?_
  intro p e s m args below meth c s₁ B hml hv
  obtain ⟨rfl, hz, hP, hK, hN, hL⟩ := hv
  have hx := B.exec
  have hb := B.bytes
  have hr := B.returns
  have hts0 := atoms_spec (ws := .code yX6_init cX6_init 1 none :: gtb) B.pre
  have hts : ∀ w ∈ gtb, w.before [.ref (bs + 38)].toArray s = true := fun w hw => hts0 w (List.mem_cons_of_mem _ hw)
  have hown : s.vm.findClass RX6 = some m.cls := findClass_of_methodNamed B.named
  have hlocks := B.notSynchronized
  have hin2 : meth.name = "<init>" := (name_of_methodNamed B.named B.method).1
  have hS : va_S (FA bs) s.heap s.heap [] := va_S.rf
  have hl := lv_entry [.ref (bs + 38)] (n := 1) (Nat.le_of_ble_eq_true rfl)
  rw [lg_entry_eq]
  generalize (lg_sl [.ref (bs + 38)] ++ List.replicate (1 - (lg_sl [.ref (bs + 38)]).length) Slot.unset).toArray = ls at hl ⊢
  have hl : lv_has ls 1 [(0, .ref (bs + 38))] := hl
  change W p l e ({ frames := 1, cells := 2, slots := 64, locals := 20 } : Room) s m [.ref (bs + 38)].toArray below meth c s.heap [] 0 0 _ (F0 m 0 ls [])
  refine lv_aload_n hx hb dX6_init_0 rfl (lv_at hl 0 rfl) ?_
  refine W.objInit hx hb hown (hts _ ml_251) (hts _ oi_inst) (hts _ oi_code) rfl (by rw [hml]; exact hl.1) rfl dX6_init_1 (Nat.le_of_ble_eq_true rfl) (Nat.le_of_ble_eq_true rfl) ?_
  refine W.eq (g2 := F0 m 4 ls []) rfl ?_
  refine lv_aload_n hx hb dX6_init_4 rfl (lv_at hl 0 rfl) ?_
  refine lv_bipush (v := (32 : Int32)) hx hb dX6_init_5 (by decide) ?_
  refine n_A (t0 := 0) (ty := .int) (N' := 32) (a0 := (32, .inl (fun _ => 0))) hx hb hts hK hP hz hS ac_int rfl rfl (fun _ => rfl) (fun _ => rfl) (by decide) rfl (by decide) (Nat.le_of_ble_eq_true rfl) (Nat.le_of_ble_eq_true rfl) dX6_init_7 (fun H hP hz hS => ?_)
  obtain ⟨C1, eC1⟩ : ∃ z : CW, z = cset C 39 (.inl (y.1, 32, .inl (fun _ => 0))) := ⟨_, rfl⟩
  have hP : va_P D vwCl (wc bs 40 C1) H := by rw [eC1]; exact hP
  have hO : C1 38 = .inr (6, [.int 0, .int 0, .int 0, .int 0, .null, .null]) := by rw [eC1, cset_ne (by decide)]; exact hO
  refine W.eq (g2 := F0 m 9 ls [.ref (bs + 39), .ref (bs + 38)]) rfl ?_
  refine W.widen (k := 1) (n := 32) (by omega) (by omega) ?_
  refine p_F (K := RX6) (T := TX6) (N := 6) (ci := 6) (ty := .array .int) 38 4 tyX6 hx hb hts hown hin2 hK hP hz hS in_X6 tyX6_ok nmX6 rfl (by decide) hO (by decide) fl_58 rfl rfl (by decide +kernel) rfl rfl (Nat.le_of_ble_eq_true rfl) dX6_init_9 (fun H locs hP hz hS => ?_)
  obtain ⟨C2, eC2⟩ : ∃ z : CW, z = cset C1 38 (.inr (6, [.int 0, .int 0, .int 0, .int 0, .ref (bs + 39), .null])) := ⟨_, rfl⟩
  have hP : va_P D vwCl (wc bs 40 C2) H := by rw [eC2]; exact hP
  have hO : C2 38 = .inr (6, [.int 0, .int 0, .int 0, .int 0, .ref (bs + 39), .null]) := by rw [eC2]; exact cset_eq
  refine lv_aload_n hx hb dX6_init_12 rfl (lv_at hl 0 rfl) ?_
  refine lv_bipush (v := (32 : Int32)) hx hb dX6_init_13 (by decide) ?_
  refine n_A (t0 := 0) (ty := .int) (N' := 32) (a0 := (32, .inl (fun _ => 0))) hx hb hts hK hP hz hS ac_int rfl rfl (fun _ => rfl) (fun _ => rfl) (by decide) rfl (by decide) (Nat.le_of_ble_eq_true rfl) (Nat.le_of_ble_eq_true rfl) dX6_init_15 (fun H hP hz hS => ?_)
  obtain ⟨C3, eC3⟩ : ∃ z : CW, z = cset C2 40 (.inl (y.1, 32, .inl (fun _ => 0))) := ⟨_, rfl⟩
  have hP : va_P D vwCl (wc bs 41 C3) H := by rw [eC3]; exact hP
  have hO : C3 38 = .inr (6, [.int 0, .int 0, .int 0, .int 0, .ref (bs + 39), .null]) := by rw [eC3, cset_ne (by decide)]; exact hO
  refine W.eq (g2 := F0 m 17 ls [.ref (bs + 40), .ref (bs + 38)]) rfl ?_
  refine W.widen (k := 2) (n := 64) (by omega) (by omega) ?_
  refine p_F (K := RX6) (T := TX6) (N := 6) (ci := 6) (ty := .array .int) 38 5 tyX6 hx hb hts hown hin2 hK hP hz hS in_X6 tyX6_ok nmX6 rfl (by decide) hO (by decide) fl_60 rfl rfl (by decide +kernel) rfl rfl (Nat.le_of_ble_eq_true rfl) dX6_init_17 (fun H locs hP hz hS => ?_)
  obtain ⟨C4, eC4⟩ : ∃ z : CW, z = cset C3 38 (.inr (6, [.int 0, .int 0, .int 0, .int 0, .ref (bs + 39), .ref (bs + 40)])) := ⟨_, rfl⟩
  have hP : va_P D vwCl (wc bs 41 C4) H := by rw [eC4]; exact hP
  have hO : C4 38 = .inr (6, [.int 0, .int 0, .int 0, .int 0, .ref (bs + 39), .ref (bs + 40)]) := by rw [eC4]; exact cset_eq
  refine r_C hx hb hr hlocks hP hz hK hN hL hS ⟨fun a h1 h2 => ?_, fun a h1 => ?_⟩ dX6_init_20
  · rw [eC4, cset_ne (show a ≠ 38 by omega), eC3, cset_ne (show a ≠ 40 by omega), eC2, cset_ne (show a ≠ 38 by omega), eC1, cset_ne (show a ≠ 39 by omega)]
  · have h3 : a = 38 ∨ a = 39 ∨ a = 40 := by omega
    rcases h3 with rfl | rfl | rfl
    · exact hO.trans tg_38.symm
    · rw [eC4, cset_ne (by decide), eC3, cset_ne (by decide), eC2, cset_ne (by decide), eC1, cset_eq]; exact tg_39.symm
    · rw [eC4, cset_ne (by decide), eC3, cset_eq]; exact tg_40.symm
theorem ok_X4_init : okC yX4_init cX4_init 1 none 0 := ⟨gtb_mem (List.mem_append_right _ (List.mem_of_getElem? (i := 319) (by decide +kernel))) rfl, gtb_mem (List.mem_append_right _ (List.mem_of_getElem? (i := 10) (by decide +kernel))) rfl, by decide +kernel⟩
theorem oi_X4_init : Cond.instanceMethod yX4_init ∈ gtb := gtb_mem (List.mem_append_right _ (List.mem_of_getElem? (i := 318) (by decide +kernel))) rfl
theorem dX4_init_0 : decode cX4_init 0 = .ok (.aload_n 0, 1) := by decide +kernel
theorem dX4_init_1 : decode cX4_init 1 = .ok (.invokespecial 3, 3) := by decide +kernel
theorem dX4_init_4 : decode cX4_init 4 = .ok (.aload_n 0, 1) := by decide +kernel
theorem dX4_init_5 : decode cX4_init 5 = .ok (.bipush 37, 2) := by decide +kernel
theorem dX4_init_7 : decode cX4_init 7 = .ok (.newarray .int, 2) := by decide +kernel
theorem dX4_init_9 : decode cX4_init 9 = .ok (.putfield 9, 3) := by decide +kernel
theorem dX4_init_12 : decode cX4_init 12 = .ok (.return_, 1) := by decide +kernel
theorem ml_252 : Cond.methodLink RX4 3 objectInit ∈ gtb := gtb_mem (List.mem_append_right _ (List.mem_of_getElem? (i := 320) (by decide +kernel))) rfl
set_option maxHeartbeats 4000000 in
set_option maxRecDepth 100000 in
theorem iX4_init_ (l : Launch) (bs : Nat) (D : va_G) (y : Y3) (C : CW) (hO : C 41 = .inr (4, [.int 0, .int 0, .null])) : Met l yX4_init (.code yX4_init cX4_init 1 none :: gtb) ({ frames := 1, cells := 1, slots := 37, locals := 20 } : Room) (va_Pc [.ref (bs + 41)] (HC bs D y 42 C)) (va_Qv (fun C1 => (∀ a, a < 42 → a ≠ 41 → C1 a = C a) ∧ ∀ a, (a = 41 ∨ (42 ≤ a ∧ a < 43)) → C1 a = cE bs y zI zJ a) (fun C1 t => HC bs D y 43 C1 t) (FA bs)) 1 37 (FA bs) := by
  refine Met.ofW (cc := cX4_init) (maxL := 1) (ret := none) (by decide) rfl ?_
  intro p e s m args below meth c s₁ B hml hv
  obtain ⟨rfl, hz, hP, hK, hN, hL⟩ := hv
  have hx := B.exec
  have hb := B.bytes
  have hr := B.returns
  have hts0 := atoms_spec (ws := .code yX4_init cX4_init 1 none :: gtb) B.pre
  have hts : ∀ w ∈ gtb, w.before [.ref (bs + 41)].toArray s = true := fun w hw => hts0 w (List.mem_cons_of_mem _ hw)
  have hown : s.vm.findClass RX4 = some m.cls := findClass_of_methodNamed B.named
  have hlocks := B.notSynchronized
  have hin2 : meth.name = "<init>" := (name_of_methodNamed B.named B.method).1
  have hS : va_S (FA bs) s.heap s.heap [] := va_S.rf
  have hl := lv_entry [.ref (bs + 41)] (n := 1) (Nat.le_of_ble_eq_true rfl)
  rw [lg_entry_eq]
  generalize (lg_sl [.ref (bs + 41)] ++ List.replicate (1 - (lg_sl [.ref (bs + 41)]).length) Slot.unset).toArray = ls at hl ⊢
  have hl : lv_has ls 1 [(0, .ref (bs + 41))] := hl
  change W p l e ({ frames := 1, cells := 1, slots := 37, locals := 20 } : Room) s m [.ref (bs + 41)].toArray below meth c s.heap [] 0 0 _ (F0 m 0 ls [])
  refine lv_aload_n hx hb dX4_init_0 rfl (lv_at hl 0 rfl) ?_
  refine W.objInit hx hb hown (hts _ ml_252) (hts _ oi_inst) (hts _ oi_code) rfl (by rw [hml]; exact hl.1) rfl dX4_init_1 (Nat.le_of_ble_eq_true rfl) (Nat.le_of_ble_eq_true rfl) ?_
  refine W.eq (g2 := F0 m 4 ls []) rfl ?_
  refine lv_aload_n hx hb dX4_init_4 rfl (lv_at hl 0 rfl) ?_
  refine lv_bipush (v := (37 : Int32)) hx hb dX4_init_5 (by decide) ?_
  refine n_A (t0 := 0) (ty := .int) (N' := 37) (a0 := (37, .inl (fun _ => 0))) hx hb hts hK hP hz hS ac_int rfl rfl (fun _ => rfl) (fun _ => rfl) (by decide) rfl (by decide) (Nat.le_of_ble_eq_true rfl) (Nat.le_of_ble_eq_true rfl) dX4_init_7 (fun H hP hz hS => ?_)
  obtain ⟨C1, eC1⟩ : ∃ z : CW, z = cset C 42 (.inl (y.1, 37, .inl (fun _ => 0))) := ⟨_, rfl⟩
  have hP : va_P D vwCl (wc bs 43 C1) H := by rw [eC1]; exact hP
  have hO : C1 41 = .inr (4, [.int 0, .int 0, .null]) := by rw [eC1, cset_ne (by decide)]; exact hO
  refine W.eq (g2 := F0 m 9 ls [.ref (bs + 42), .ref (bs + 41)]) rfl ?_
  refine W.widen (k := 1) (n := 37) (by omega) (by omega) ?_
  refine p_F (K := RX4) (T := TX4) (N := 3) (ci := 4) (ty := .array .int) 41 2 tyX4 hx hb hts hown hin2 hK hP hz hS in_X4 tyX4_ok nmX4 rfl (by decide) hO (by decide) fl_42 rfl rfl (by decide +kernel) rfl rfl (Nat.le_of_ble_eq_true rfl) dX4_init_9 (fun H locs hP hz hS => ?_)
  obtain ⟨C2, eC2⟩ : ∃ z : CW, z = cset C1 41 (.inr (4, [.int 0, .int 0, .ref (bs + 42)])) := ⟨_, rfl⟩
  have hP : va_P D vwCl (wc bs 43 C2) H := by rw [eC2]; exact hP
  have hO : C2 41 = .inr (4, [.int 0, .int 0, .ref (bs + 42)]) := by rw [eC2]; exact cset_eq
  refine r_C hx hb hr hlocks hP hz hK hN hL hS ⟨fun a h1 h2 => ?_, fun a h1 => ?_⟩ dX4_init_12
  · rw [eC2, cset_ne (show a ≠ 41 by omega), eC1, cset_ne (show a ≠ 42 by omega)]
  · have h3 : a = 41 ∨ a = 42 := by omega
    rcases h3 with rfl | rfl
    · exact hO.trans tg_41.symm
    · rw [eC2, cset_ne (by decide), eC1, cset_eq]; exact tg_42.symm
theorem ok_X10_init : okC yX10_init cX10_init 1 none 0 := ⟨gtb_mem (List.mem_append_right _ (List.mem_of_getElem? (i := 921) (by decide +kernel))) rfl, gtb_mem (List.mem_append_right _ (List.mem_of_getElem? (i := 12) (by decide +kernel))) rfl, by decide +kernel⟩
theorem oi_X10_init : Cond.instanceMethod yX10_init ∈ gtb := gtb_mem (List.mem_append_right _ (List.mem_of_getElem? (i := 920) (by decide +kernel))) rfl
theorem dX10_init_0 : decode cX10_init 0 = .ok (.aload_n 0, 1) := by decide +kernel
theorem dX10_init_1 : decode cX10_init 1 = .ok (.invokespecial 1, 3) := by decide +kernel
theorem dX10_init_4 : decode cX10_init 4 = .ok (.aload_n 0, 1) := by decide +kernel
theorem dX10_init_5 : decode cX10_init 5 = .ok (.bipush 32, 2) := by decide +kernel
theorem dX10_init_7 : decode cX10_init 7 = .ok (.newarray .int, 2) := by decide +kernel
theorem dX10_init_9 : decode cX10_init 9 = .ok (.putfield 7, 3) := by decide +kernel
theorem dX10_init_12 : decode cX10_init 12 = .ok (.aload_n 0, 1) := by decide +kernel
theorem dX10_init_13 : decode cX10_init 13 = .ok (.bipush 32, 2) := by decide +kernel
theorem dX10_init_15 : decode cX10_init 15 = .ok (.newarray .int, 2) := by decide +kernel
theorem dX10_init_17 : decode cX10_init 17 = .ok (.putfield 13, 3) := by decide +kernel
theorem dX10_init_20 : decode cX10_init 20 = .ok (.aload_n 0, 1) := by decide +kernel
theorem dX10_init_21 : decode cX10_init 21 = .ok (.bipush 32, 2) := by decide +kernel
theorem dX10_init_23 : decode cX10_init 23 = .ok (.newarray .int, 2) := by decide +kernel
theorem dX10_init_25 : decode cX10_init 25 = .ok (.putfield 16, 3) := by decide +kernel
theorem dX10_init_28 : decode cX10_init 28 = .ok (.aload_n 0, 1) := by decide +kernel
theorem dX10_init_29 : decode cX10_init 29 = .ok (.bipush 32, 2) := by decide +kernel
theorem dX10_init_31 : decode cX10_init 31 = .ok (.newarray .int, 2) := by decide +kernel
theorem dX10_init_33 : decode cX10_init 33 = .ok (.putfield 19, 3) := by decide +kernel
theorem dX10_init_36 : decode cX10_init 36 = .ok (.aload_n 0, 1) := by decide +kernel
theorem dX10_init_37 : decode cX10_init 37 = .ok (.bipush 32, 2) := by decide +kernel
theorem dX10_init_39 : decode cX10_init 39 = .ok (.newarray .boolean, 2) := by decide +kernel
theorem dX10_init_41 : decode cX10_init 41 = .ok (.putfield 22, 3) := by decide +kernel
theorem dX10_init_44 : decode cX10_init 44 = .ok (.aload_n 0, 1) := by decide +kernel
theorem dX10_init_45 : decode cX10_init 45 = .ok (.bipush 8, 2) := by decide +kernel
theorem dX10_init_47 : decode cX10_init 47 = .ok (.newarray .int, 2) := by decide +kernel
theorem dX10_init_49 : decode cX10_init 49 = .ok (.putfield 26, 3) := by decide +kernel
theorem dX10_init_52 : decode cX10_init 52 = .ok (.aload_n 0, 1) := by decide +kernel
theorem dX10_init_53 : decode cX10_init 53 = .ok (.bipush 9, 2) := by decide +kernel
theorem dX10_init_55 : decode cX10_init 55 = .ok (.newarray .int, 2) := by decide +kernel
theorem dX10_init_57 : decode cX10_init 57 = .ok (.putfield 29, 3) := by decide +kernel
theorem dX10_init_60 : decode cX10_init 60 = .ok (.aload_n 0, 1) := by decide +kernel
theorem dX10_init_61 : decode cX10_init 61 = .ok (.sipush 1280, 3) := by decide +kernel
theorem dX10_init_64 : decode cX10_init 64 = .ok (.newarray .int, 2) := by decide +kernel
theorem dX10_init_66 : decode cX10_init 66 = .ok (.putfield 32, 3) := by decide +kernel
theorem dX10_init_69 : decode cX10_init 69 = .ok (.aload_n 0, 1) := by decide +kernel
theorem dX10_init_70 : decode cX10_init 70 = .ok (.bipush 32, 2) := by decide +kernel
theorem dX10_init_72 : decode cX10_init 72 = .ok (.newarray .int, 2) := by decide +kernel
theorem dX10_init_74 : decode cX10_init 74 = .ok (.putfield 35, 3) := by decide +kernel
theorem dX10_init_77 : decode cX10_init 77 = .ok (.aload_n 0, 1) := by decide +kernel
theorem dX10_init_78 : decode cX10_init 78 = .ok (.bipush 32, 2) := by decide +kernel
theorem dX10_init_80 : decode cX10_init 80 = .ok (.newarray .int, 2) := by decide +kernel
theorem dX10_init_82 : decode cX10_init 82 = .ok (.putfield 38, 3) := by decide +kernel
theorem dX10_init_85 : decode cX10_init 85 = .ok (.aload_n 0, 1) := by decide +kernel
theorem dX10_init_86 : decode cX10_init 86 = .ok (.bipush 32, 2) := by decide +kernel
theorem dX10_init_88 : decode cX10_init 88 = .ok (.newarray .boolean, 2) := by decide +kernel
theorem dX10_init_90 : decode cX10_init 90 = .ok (.putfield 41, 3) := by decide +kernel
theorem dX10_init_93 : decode cX10_init 93 = .ok (.aload_n 0, 1) := by decide +kernel
theorem dX10_init_94 : decode cX10_init 94 = .ok (.sipush 128, 3) := by decide +kernel
theorem dX10_init_97 : decode cX10_init 97 = .ok (.newarray .int, 2) := by decide +kernel
theorem dX10_init_99 : decode cX10_init 99 = .ok (.putfield 44, 3) := by decide +kernel
theorem dX10_init_102 : decode cX10_init 102 = .ok (.aload_n 0, 1) := by decide +kernel
theorem dX10_init_103 : decode cX10_init 103 = .ok (.bipush 32, 2) := by decide +kernel
theorem dX10_init_105 : decode cX10_init 105 = .ok (.newarray .int, 2) := by decide +kernel
theorem dX10_init_107 : decode cX10_init 107 = .ok (.putfield 47, 3) := by decide +kernel
theorem dX10_init_110 : decode cX10_init 110 = .ok (.aload_n 0, 1) := by decide +kernel
theorem dX10_init_111 : decode cX10_init 111 = .ok (.bipush 32, 2) := by decide +kernel
theorem dX10_init_113 : decode cX10_init 113 = .ok (.newarray .int, 2) := by decide +kernel
theorem dX10_init_115 : decode cX10_init 115 = .ok (.putfield 50, 3) := by decide +kernel
theorem dX10_init_118 : decode cX10_init 118 = .ok (.aload_n 0, 1) := by decide +kernel
theorem dX10_init_119 : decode cX10_init 119 = .ok (.bipush 32, 2) := by decide +kernel
theorem dX10_init_121 : decode cX10_init 121 = .ok (.newarray .boolean, 2) := by decide +kernel
theorem dX10_init_123 : decode cX10_init 123 = .ok (.putfield 53, 3) := by decide +kernel
theorem dX10_init_126 : decode cX10_init 126 = .ok (.aload_n 0, 1) := by decide +kernel
theorem dX10_init_127 : decode cX10_init 127 = .ok (.iconst 3, 1) := by decide +kernel
theorem dX10_init_128 : decode cX10_init 128 = .ok (.putfield 56, 3) := by decide +kernel
theorem dX10_init_131 : decode cX10_init 131 = .ok (.aload_n 0, 1) := by decide +kernel
theorem dX10_init_132 : decode cX10_init 132 = .ok (.iconst 3, 1) := by decide +kernel
theorem dX10_init_133 : decode cX10_init 133 = .ok (.putfield 60, 3) := by decide +kernel
theorem dX10_init_136 : decode cX10_init 136 = .ok (.aload_n 0, 1) := by decide +kernel
theorem dX10_init_137 : decode cX10_init 137 = .ok (.iconst 2, 1) := by decide +kernel
theorem dX10_init_138 : decode cX10_init 138 = .ok (.putfield 63, 3) := by decide +kernel
theorem dX10_init_141 : decode cX10_init 141 = .ok (.aload_n 0, 1) := by decide +kernel
theorem dX10_init_142 : decode cX10_init 142 = .ok (.iconst 2, 1) := by decide +kernel
theorem dX10_init_143 : decode cX10_init 143 = .ok (.putfield 66, 3) := by decide +kernel
theorem dX10_init_146 : decode cX10_init 146 = .ok (.aload_n 0, 1) := by decide +kernel
theorem dX10_init_147 : decode cX10_init 147 = .ok (.bipush 36, 2) := by decide +kernel
theorem dX10_init_149 : decode cX10_init 149 = .ok (.newarray .boolean, 2) := by decide +kernel
theorem dX10_init_151 : decode cX10_init 151 = .ok (.putfield 69, 3) := by decide +kernel
theorem dX10_init_154 : decode cX10_init 154 = .ok (.aload_n 0, 1) := by decide +kernel
theorem dX10_init_155 : decode cX10_init 155 = .ok (.bipush 32, 2) := by decide +kernel
theorem dX10_init_157 : decode cX10_init 157 = .ok (.newarray .int, 2) := by decide +kernel
theorem dX10_init_159 : decode cX10_init 159 = .ok (.putfield 72, 3) := by decide +kernel
theorem dX10_init_162 : decode cX10_init 162 = .ok (.aload_n 0, 1) := by decide +kernel
theorem dX10_init_163 : decode cX10_init 163 = .ok (.sipush 1920, 3) := by decide +kernel
theorem dX10_init_166 : decode cX10_init 166 = .ok (.newarray .boolean, 2) := by decide +kernel
theorem dX10_init_168 : decode cX10_init 168 = .ok (.putfield 75, 3) := by decide +kernel
theorem dX10_init_171 : decode cX10_init 171 = .ok (.aload_n 0, 1) := by decide +kernel
theorem dX10_init_172 : decode cX10_init 172 = .ok (.bipush 60, 2) := by decide +kernel
theorem dX10_init_174 : decode cX10_init 174 = .ok (.newarray .int, 2) := by decide +kernel
theorem dX10_init_176 : decode cX10_init 176 = .ok (.putfield 78, 3) := by decide +kernel
theorem dX10_init_179 : decode cX10_init 179 = .ok (.aload_n 0, 1) := by decide +kernel
theorem dX10_init_180 : decode cX10_init 180 = .ok (.bipush 60, 2) := by decide +kernel
theorem dX10_init_182 : decode cX10_init 182 = .ok (.newarray .int, 2) := by decide +kernel
theorem dX10_init_184 : decode cX10_init 184 = .ok (.putfield 81, 3) := by decide +kernel
theorem dX10_init_187 : decode cX10_init 187 = .ok (.aload_n 0, 1) := by decide +kernel
theorem dX10_init_188 : decode cX10_init 188 = .ok (.bipush 36, 2) := by decide +kernel
theorem dX10_init_190 : decode cX10_init 190 = .ok (.newarray .int, 2) := by decide +kernel
theorem dX10_init_192 : decode cX10_init 192 = .ok (.putfield 84, 3) := by decide +kernel
theorem dX10_init_195 : decode cX10_init 195 = .ok (.aload_n 0, 1) := by decide +kernel
theorem dX10_init_196 : decode cX10_init 196 = .ok (.bipush 36, 2) := by decide +kernel
theorem dX10_init_198 : decode cX10_init 198 = .ok (.newarray .boolean, 2) := by decide +kernel
theorem dX10_init_200 : decode cX10_init 200 = .ok (.putfield 87, 3) := by decide +kernel
theorem dX10_init_203 : decode cX10_init 203 = .ok (.aload_n 0, 1) := by decide +kernel
theorem dX10_init_204 : decode cX10_init 204 = .ok (.bipush 60, 2) := by decide +kernel
theorem dX10_init_206 : decode cX10_init 206 = .ok (.newarray .int, 2) := by decide +kernel
theorem dX10_init_208 : decode cX10_init 208 = .ok (.putfield 90, 3) := by decide +kernel
theorem dX10_init_211 : decode cX10_init 211 = .ok (.aload_n 0, 1) := by decide +kernel
theorem dX10_init_212 : decode cX10_init 212 = .ok (.sipush 1440, 3) := by decide +kernel
theorem dX10_init_215 : decode cX10_init 215 = .ok (.newarray .int, 2) := by decide +kernel
theorem dX10_init_217 : decode cX10_init 217 = .ok (.putfield 93, 3) := by decide +kernel
theorem dX10_init_220 : decode cX10_init 220 = .ok (.aload_n 0, 1) := by decide +kernel
theorem dX10_init_221 : decode cX10_init 221 = .ok (.bipush 36, 2) := by decide +kernel
theorem dX10_init_223 : decode cX10_init 223 = .ok (.newarray .int, 2) := by decide +kernel
theorem dX10_init_225 : decode cX10_init 225 = .ok (.putfield 96, 3) := by decide +kernel
theorem dX10_init_228 : decode cX10_init 228 = .ok (.aload_n 0, 1) := by decide +kernel
theorem dX10_init_229 : decode cX10_init 229 = .ok (.bipush 32, 2) := by decide +kernel
theorem dX10_init_231 : decode cX10_init 231 = .ok (.newarray .int, 2) := by decide +kernel
theorem dX10_init_233 : decode cX10_init 233 = .ok (.putfield 99, 3) := by decide +kernel
theorem dX10_init_236 : decode cX10_init 236 = .ok (.aload_n 0, 1) := by decide +kernel
theorem dX10_init_237 : decode cX10_init 237 = .ok (.bipush 32, 2) := by decide +kernel
theorem dX10_init_239 : decode cX10_init 239 = .ok (.newarray .boolean, 2) := by decide +kernel
theorem dX10_init_241 : decode cX10_init 241 = .ok (.putfield 102, 3) := by decide +kernel
theorem dX10_init_244 : decode cX10_init 244 = .ok (.aload_n 0, 1) := by decide +kernel
theorem dX10_init_245 : decode cX10_init 245 = .ok (.bipush 32, 2) := by decide +kernel
theorem dX10_init_247 : decode cX10_init 247 = .ok (.newarray .boolean, 2) := by decide +kernel
theorem dX10_init_249 : decode cX10_init 249 = .ok (.putfield 105, 3) := by decide +kernel
theorem dX10_init_252 : decode cX10_init 252 = .ok (.aload_n 0, 1) := by decide +kernel
theorem dX10_init_253 : decode cX10_init 253 = .ok (.bipush 32, 2) := by decide +kernel
theorem dX10_init_255 : decode cX10_init 255 = .ok (.newarray .boolean, 2) := by decide +kernel
theorem dX10_init_257 : decode cX10_init 257 = .ok (.putfield 108, 3) := by decide +kernel
theorem dX10_init_260 : decode cX10_init 260 = .ok (.aload_n 0, 1) := by decide +kernel
theorem dX10_init_261 : decode cX10_init 261 = .ok (.iconst (-1), 1) := by decide +kernel
theorem dX10_init_262 : decode cX10_init 262 = .ok (.putfield 111, 3) := by decide +kernel
theorem dX10_init_265 : decode cX10_init 265 = .ok (.aload_n 0, 1) := by decide +kernel
theorem dX10_init_266 : decode cX10_init 266 = .ok (.bipush 40, 2) := by decide +kernel
theorem dX10_init_268 : decode cX10_init 268 = .ok (.newarray .int, 2) := by decide +kernel
theorem dX10_init_270 : decode cX10_init 270 = .ok (.putfield 114, 3) := by decide +kernel
theorem dX10_init_273 : decode cX10_init 273 = .ok (.aload_n 0, 1) := by decide +kernel
theorem dX10_init_274 : decode cX10_init 274 = .ok (.bipush 40, 2) := by decide +kernel
theorem dX10_init_276 : decode cX10_init 276 = .ok (.newarray .int, 2) := by decide +kernel
theorem dX10_init_278 : decode cX10_init 278 = .ok (.putfield 117, 3) := by decide +kernel
theorem dX10_init_281 : decode cX10_init 281 = .ok (.aload_n 0, 1) := by decide +kernel
theorem dX10_init_282 : decode cX10_init 282 = .ok (.iconst (-1), 1) := by decide +kernel
theorem dX10_init_283 : decode cX10_init 283 = .ok (.putfield 120, 3) := by decide +kernel
theorem dX10_init_286 : decode cX10_init 286 = .ok (.return_, 1) := by decide +kernel
theorem ml_253 : Cond.methodLink RX10 1 objectInit ∈ gtb := gtb_mem (List.mem_append_right _ (List.mem_of_getElem? (i := 922) (by decide +kernel))) rfl
set_option maxHeartbeats 4000000 in
set_option maxRecDepth 100000 in
theorem iX10_init_ (l : Launch) (bs : Nat) (D : va_G) (y : Y3) (J : MJ) (C : CW) (hO : C 44 = .inr (10, [.null, .null, .null, .null, .null, .null, .int 0, .int 0, .int 0, .int 0, .null, .int 0, .int 0, .int 0, .int 0, .int 0, .null, .null, .null, .null, .null, .null, .null, .null, .int 0, .int 0, .int 0, .int 0, .null, .null, .null, .null, .null, .null, .null, .null, .null, .null, .null, .null, .null, .null, .int 0, .int 0, .int 0, .int 0, .null, .null, .int 0])) : Met l yX10_init (.code yX10_init cX10_init 1 none :: gtb) ({ frames := 1, cells := 31, slots := 5701, locals := 20 } : Room) (va_Pc [.ref (bs + 44)] (HC bs D y 45 C)) (va_Qv (fun C1 => (∀ a, a < 45 → a ≠ 44 → C1 a = C a) ∧ ∀ a, (a = 44 ∨ (45 ≤ a ∧ a < 76)) → C1 a = cE bs y iniM J a) (fun C1 t => HC bs D y 76 C1 t) (FA bs)) 31 5701 (FA bs) := by
  refine Met.ofW (cc := cX10_init) (maxL := 1) (ret := none) (by decide) rfl ?_
  intro p e s m args below meth c s₁ B hml hv
  obtain ⟨rfl, hz, hP, hK, hN, hL⟩ := hv
  have hx := B.exec
  have hb := B.bytes
  have hr := B.returns
  have hts0 := atoms_spec (ws := .code yX10_init cX10_init 1 none :: gtb) B.pre
  have hts : ∀ w ∈ gtb, w.before [.ref (bs + 44)].toArray s = true := fun w hw => hts0 w (List.mem_cons_of_mem _ hw)
  have hown : s.vm.findClass RX10 = some m.cls := findClass_of_methodNamed B.named
  have hlocks := B.notSynchronized
  have hin2 : meth.name = "<init>" := (name_of_methodNamed B.named B.method).1
  have hS : va_S (FA bs) s.heap s.heap [] := va_S.rf
  have hl := lv_entry [.ref (bs + 44)] (n := 1) (Nat.le_of_ble_eq_true rfl)
  rw [lg_entry_eq]
  generalize (lg_sl [.ref (bs + 44)] ++ List.replicate (1 - (lg_sl [.ref (bs + 44)]).length) Slot.unset).toArray = ls at hl ⊢
  have hl : lv_has ls 1 [(0, .ref (bs + 44))] := hl
  change W p l e ({ frames := 1, cells := 31, slots := 5701, locals := 20 } : Room) s m [.ref (bs + 44)].toArray below meth c s.heap [] 0 0 _ (F0 m 0 ls [])
  refine lv_aload_n hx hb dX10_init_0 rfl (lv_at hl 0 rfl) ?_
  refine W.objInit hx hb hown (hts _ ml_253) (hts _ oi_inst) (hts _ oi_code) rfl (by rw [hml]; exact hl.1) rfl dX10_init_1 (Nat.le_of_ble_eq_true rfl) (Nat.le_of_ble_eq_true rfl) ?_
  refine W.eq (g2 := F0 m 4 ls []) rfl ?_
  refine lv_aload_n hx hb dX10_init_4 rfl (lv_at hl 0 rfl) ?_
  refine lv_bipush (v := (32 : Int32)) hx hb dX10_init_5 (by decide) ?_
  refine n_A (t0 := 0) (ty := .int) (N' := 32) (a0 := (32, .inl (fun _ => 0))) hx hb hts hK hP hz hS ac_int rfl rfl (fun _ => rfl) (fun _ => rfl) (by decide) rfl (by decide) (Nat.le_of_ble_eq_true rfl) (Nat.le_of_ble_eq_true rfl) dX10_init_7 (fun H hP hz hS => ?_)
  obtain ⟨C1, eC1⟩ : ∃ z : CW, z = cset C 45 (.inl (y.1, 32, .inl (fun _ => 0))) := ⟨_, rfl⟩
  have hP : va_P D vwCl (wc bs 46 C1) H := by rw [eC1]; exact hP
  have hO : C1 44 = .inr (10, [.null, .null, .null, .null, .null, .null, .int 0, .int 0, .int 0, .int 0, .null, .int 0, .int 0, .int 0, .int 0, .int 0, .null, .null, .null, .null, .null, .null, .null, .null, .int 0, .int 0, .int 0, .int 0, .null, .null, .null, .null, .null, .null, .null, .null, .null, .null, .null, .null, .null, .null, .int 0, .int 0, .int 0, .int 0, .null, .null, .int 0]) := by rw [eC1, cset_ne (by decide)]; exact hO
  refine W.eq (g2 := F0 m 9 ls [.ref (bs + 45), .ref (bs + 44)]) rfl ?_
  refine W.widen (k := 1) (n := 32) (by omega) (by omega) ?_
  refine p_F (K := RX10) (T := TX10) (N := 49) (ci := 10) (ty := .array .int) 44 0 tyX10 hx hb hts hown hin2 hK hP hz hS in_X10 tyX10_ok nmX10 rfl (by decide) hO (by decide) fl_146 rfl rfl (by decide +kernel) rfl rfl (Nat.le_of_ble_eq_true rfl) dX10_init_9 (fun H locs hP hz hS => ?_)
  obtain ⟨C2, eC2⟩ : ∃ z : CW, z = cset C1 44 (.inr (10, [.ref (bs + 45), .null, .null, .null, .null, .null, .int 0, .int 0, .int 0, .int 0, .null, .int 0, .int 0, .int 0, .int 0, .int 0, .null, .null, .null, .null, .null, .null, .null, .null, .int 0, .int 0, .int 0, .int 0, .null, .null, .null, .null, .null, .null, .null, .null, .null, .null, .null, .null, .null, .null, .int 0, .int 0, .int 0, .int 0, .null, .null, .int 0])) := ⟨_, rfl⟩
  have hP : va_P D vwCl (wc bs 46 C2) H := by rw [eC2]; exact hP
  have hO : C2 44 = .inr (10, [.ref (bs + 45), .null, .null, .null, .null, .null, .int 0, .int 0, .int 0, .int 0, .null, .int 0, .int 0, .int 0, .int 0, .int 0, .null, .null, .null, .null, .null, .null, .null, .null, .int 0, .int 0, .int 0, .int 0, .null, .null, .null, .null, .null, .null, .null, .null, .null, .null, .null, .null, .null, .null, .int 0, .int 0, .int 0, .int 0, .null, .null, .int 0]) := by rw [eC2]; exact cset_eq
  refine lv_aload_n hx hb dX10_init_12 rfl (lv_at hl 0 rfl) ?_
  refine lv_bipush (v := (32 : Int32)) hx hb dX10_init_13 (by decide) ?_
  refine n_A (t0 := 0) (ty := .int) (N' := 32) (a0 := (32, .inl (fun _ => 0))) hx hb hts hK hP hz hS ac_int rfl rfl (fun _ => rfl) (fun _ => rfl) (by decide) rfl (by decide) (Nat.le_of_ble_eq_true rfl) (Nat.le_of_ble_eq_true rfl) dX10_init_15 (fun H hP hz hS => ?_)
  obtain ⟨C3, eC3⟩ : ∃ z : CW, z = cset C2 46 (.inl (y.1, 32, .inl (fun _ => 0))) := ⟨_, rfl⟩
  have hP : va_P D vwCl (wc bs 47 C3) H := by rw [eC3]; exact hP
  have hO : C3 44 = .inr (10, [.ref (bs + 45), .null, .null, .null, .null, .null, .int 0, .int 0, .int 0, .int 0, .null, .int 0, .int 0, .int 0, .int 0, .int 0, .null, .null, .null, .null, .null, .null, .null, .null, .int 0, .int 0, .int 0, .int 0, .null, .null, .null, .null, .null, .null, .null, .null, .null, .null, .null, .null, .null, .null, .int 0, .int 0, .int 0, .int 0, .null, .null, .int 0]) := by rw [eC3, cset_ne (by decide)]; exact hO
  refine W.eq (g2 := F0 m 17 ls [.ref (bs + 46), .ref (bs + 44)]) rfl ?_
  refine W.widen (k := 2) (n := 64) (by omega) (by omega) ?_
  refine p_F (K := RX10) (T := TX10) (N := 49) (ci := 10) (ty := .array .int) 44 1 tyX10 hx hb hts hown hin2 hK hP hz hS in_X10 tyX10_ok nmX10 rfl (by decide) hO (by decide) fl_153 rfl rfl (by decide +kernel) rfl rfl (Nat.le_of_ble_eq_true rfl) dX10_init_17 (fun H locs hP hz hS => ?_)
  obtain ⟨C4, eC4⟩ : ∃ z : CW, z = cset C3 44 (.inr (10, [.ref (bs + 45), .ref (bs + 46), .null, .null, .null, .null, .int 0, .int 0, .int 0, .int 0, .null, .int 0, .int 0, .int 0, .int 0, .int 0, .null, .null, .null, .null, .null, .null, .null, .null, .int 0, .int 0, .int 0, .int 0, .null, .null, .null, .null, .null, .null, .null, .null, .null, .null, .null, .null, .null, .null, .int 0, .int 0, .int 0, .int 0, .null, .null, .int 0])) := ⟨_, rfl⟩
  have hP : va_P D vwCl (wc bs 47 C4) H := by rw [eC4]; exact hP
  have hO : C4 44 = .inr (10, [.ref (bs + 45), .ref (bs + 46), .null, .null, .null, .null, .int 0, .int 0, .int 0, .int 0, .null, .int 0, .int 0, .int 0, .int 0, .int 0, .null, .null, .null, .null, .null, .null, .null, .null, .int 0, .int 0, .int 0, .int 0, .null, .null, .null, .null, .null, .null, .null, .null, .null, .null, .null, .null, .null, .null, .int 0, .int 0, .int 0, .int 0, .null, .null, .int 0]) := by rw [eC4]; exact cset_eq
  refine lv_aload_n hx hb dX10_init_20 rfl (lv_at hl 0 rfl) ?_
  refine lv_bipush (v := (32 : Int32)) hx hb dX10_init_21 (by decide) ?_
  refine n_A (t0 := 0) (ty := .int) (N' := 32) (a0 := (32, .inl (fun _ => 0))) hx hb hts hK hP hz hS ac_int rfl rfl (fun _ => rfl) (fun _ => rfl) (by decide) rfl (by decide) (Nat.le_of_ble_eq_true rfl) (Nat.le_of_ble_eq_true rfl) dX10_init_23 (fun H hP hz hS => ?_)
  obtain ⟨C5, eC5⟩ : ∃ z : CW, z = cset C4 47 (.inl (y.1, 32, .inl (fun _ => 0))) := ⟨_, rfl⟩
  have hP : va_P D vwCl (wc bs 48 C5) H := by rw [eC5]; exact hP
  have hO : C5 44 = .inr (10, [.ref (bs + 45), .ref (bs + 46), .null, .null, .null, .null, .int 0, .int 0, .int 0, .int 0, .null, .int 0, .int 0, .int 0, .int 0, .int 0, .null, .null, .null, .null, .null, .null, .null, .null, .int 0, .int 0, .int 0, .int 0, .null, .null, .null, .null, .null, .null, .null, .null, .null, .null, .null, .null, .null, .null, .int 0, .int 0, .int 0, .int 0, .null, .null, .int 0]) := by rw [eC5, cset_ne (by decide)]; exact hO
  refine W.eq (g2 := F0 m 25 ls [.ref (bs + 47), .ref (bs + 44)]) rfl ?_
  refine W.widen (k := 3) (n := 96) (by omega) (by omega) ?_
  refine p_F (K := RX10) (T := TX10) (N := 49) (ci := 10) (ty := .array .int) 44 2 tyX10 hx hb hts hown hin2 hK hP hz hS in_X10 tyX10_ok nmX10 rfl (by decide) hO (by decide) fl_154 rfl rfl (by decide +kernel) rfl rfl (Nat.le_of_ble_eq_true rfl) dX10_init_25 (fun H locs hP hz hS => ?_)
  obtain ⟨C6, eC6⟩ : ∃ z : CW, z = cset C5 44 (.inr (10, [.ref (bs + 45), .ref (bs + 46), .ref (bs + 47), .null, .null, .null, .int 0, .int 0, .int 0, .int 0, .null, .int 0, .int 0, .int 0, .int 0, .int 0, .null, .null, .null, .null, .null, .null, .null, .null, .int 0, .int 0, .int 0, .int 0, .null, .null, .null, .null, .null, .null, .null, .null, .null, .null, .null, .null, .null, .null, .int 0, .int 0, .int 0, .int 0, .null, .null, .int 0])) := ⟨_, rfl⟩
  have hP : va_P D vwCl (wc bs 48 C6) H := by rw [eC6]; exact hP
  have hO : C6 44 = .inr (10, [.ref (bs + 45), .ref (bs + 46), .ref (bs + 47), .null, .null, .null, .int 0, .int 0, .int 0, .int 0, .null, .int 0, .int 0, .int 0, .int 0, .int 0, .null, .null, .null, .null, .null, .null, .null, .null, .int 0, .int 0, .int 0, .int 0, .null, .null, .null, .null, .null, .null, .null, .null, .null, .null, .null, .null, .null, .null, .int 0, .int 0, .int 0, .int 0, .null, .null, .int 0]) := by rw [eC6]; exact cset_eq
  refine lv_aload_n hx hb dX10_init_28 rfl (lv_at hl 0 rfl) ?_
  refine lv_bipush (v := (32 : Int32)) hx hb dX10_init_29 (by decide) ?_
  refine n_A (t0 := 0) (ty := .int) (N' := 32) (a0 := (32, .inl (fun _ => 0))) hx hb hts hK hP hz hS ac_int rfl rfl (fun _ => rfl) (fun _ => rfl) (by decide) rfl (by decide) (Nat.le_of_ble_eq_true rfl) (Nat.le_of_ble_eq_true rfl) dX10_init_31 (fun H hP hz hS => ?_)
  obtain ⟨C7, eC7⟩ : ∃ z : CW, z = cset C6 48 (.inl (y.1, 32, .inl (fun _ => 0))) := ⟨_, rfl⟩
  have hP : va_P D vwCl (wc bs 49 C7) H := by rw [eC7]; exact hP
  have hO : C7 44 = .inr (10, [.ref (bs + 45), .ref (bs + 46), .ref (bs + 47), .null, .null, .null, .int 0, .int 0, .int 0, .int 0, .null, .int 0, .int 0, .int 0, .int 0, .int 0, .null, .null, .null, .null, .null, .null, .null, .null, .int 0, .int 0, .int 0, .int 0, .null, .null, .null, .null, .null, .null, .null, .null, .null, .null, .null, .null, .null, .null, .int 0, .int 0, .int 0, .int 0, .null, .null, .int 0]) := by rw [eC7, cset_ne (by decide)]; exact hO
  refine W.eq (g2 := F0 m 33 ls [.ref (bs + 48), .ref (bs + 44)]) rfl ?_
  refine W.widen (k := 4) (n := 128) (by omega) (by omega) ?_
  refine p_F (K := RX10) (T := TX10) (N := 49) (ci := 10) (ty := .array .int) 44 3 tyX10 hx hb hts hown hin2 hK hP hz hS in_X10 tyX10_ok nmX10 rfl (by decide) hO (by decide) fl_157 rfl rfl (by decide +kernel) rfl rfl (Nat.le_of_ble_eq_true rfl) dX10_init_33 (fun H locs hP hz hS => ?_)
  obtain ⟨C8, eC8⟩ : ∃ z : CW, z = cset C7 44 (.inr (10, [.ref (bs + 45), .ref (bs + 46), .ref (bs + 47), .ref (bs + 48), .null, .null, .int 0, .int 0, .int 0, .int 0, .null, .int 0, .int 0, .int 0, .int 0, .int 0, .null, .null, .null, .null, .null, .null, .null, .null, .int 0, .int 0, .int 0, .int 0, .null, .null, .null, .null, .null, .null, .null, .null, .null, .null, .null, .null, .null, .null, .int 0, .int 0, .int 0, .int 0, .null, .null, .int 0])) := ⟨_, rfl⟩
  have hP : va_P D vwCl (wc bs 49 C8) H := by rw [eC8]; exact hP
  have hO : C8 44 = .inr (10, [.ref (bs + 45), .ref (bs + 46), .ref (bs + 47), .ref (bs + 48), .null, .null, .int 0, .int 0, .int 0, .int 0, .null, .int 0, .int 0, .int 0, .int 0, .int 0, .null, .null, .null, .null, .null, .null, .null, .null, .int 0, .int 0, .int 0, .int 0, .null, .null, .null, .null, .null, .null, .null, .null, .null, .null, .null, .null, .null, .null, .int 0, .int 0, .int 0, .int 0, .null, .null, .int 0]) := by rw [eC8]; exact cset_eq
  refine lv_aload_n hx hb dX10_init_36 rfl (lv_at hl 0 rfl) ?_
  refine lv_bipush (v := (32 : Int32)) hx hb dX10_init_37 (by decide) ?_
  refine n_A (t0 := 2) (ty := .boolean) (N' := 32) (a0 := (32, .inl (fun _ => 0))) hx hb hts hK hP hz hS ac_boolean rfl rfl (fun _ => rfl) (fun _ => rfl) (by decide) rfl (by decide) (Nat.le_of_ble_eq_true rfl) (Nat.le_of_ble_eq_true rfl) dX10_init_39 (fun H hP hz hS => ?_)
  obtain ⟨C9, eC9⟩ : ∃ z : CW, z = cset C8 49 (.inl (y.2.2.1, 32, .inl (fun _ => 0))) := ⟨_, rfl⟩
  have hP : va_P D vwCl (wc bs 50 C9) H := by rw [eC9]; exact hP
  have hO : C9 44 = .inr (10, [.ref (bs + 45), .ref (bs + 46), .ref (bs + 47), .ref (bs + 48), .null, .null, .int 0, .int 0, .int 0, .int 0, .null, .int 0, .int 0, .int 0, .int 0, .int 0, .null, .null, .null, .null, .null, .null, .null, .null, .int 0, .int 0, .int 0, .int 0, .null, .null, .null, .null, .null, .null, .null, .null, .null, .null, .null, .null, .null, .null, .int 0, .int 0, .int 0, .int 0, .null, .null, .int 0]) := by rw [eC9, cset_ne (by decide)]; exact hO
  refine W.eq (g2 := F0 m 41 ls [.ref (bs + 49), .ref (bs + 44)]) rfl ?_
  refine W.widen (k := 5) (n := 160) (by omega) (by omega) ?_
  refine p_F (K := RX10) (T := TX10) (N := 49) (ci := 10) (ty := .array .boolean) 44 4 tyX10 hx hb hts hown hin2 hK hP hz hS in_X10 tyX10_ok nmX10 rfl (by decide) hO (by decide) fl_147 rfl rfl (by decide +kernel) rfl rfl (Nat.le_of_ble_eq_true rfl) dX10_init_41 (fun H locs hP hz hS => ?_)
  obtain ⟨C10, eC10⟩ : ∃ z : CW, z = cset C9 44 (.inr (10, [.ref (bs + 45), .ref (bs + 46), .ref (bs + 47), .ref (bs + 48), .ref (bs + 49), .null, .int 0, .int 0, .int 0, .int 0, .null, .int 0, .int 0, .int 0, .int 0, .int 0, .null, .null, .null, .null, .null, .null, .null, .null, .int 0, .int 0, .int 0, .int 0, .null, .null, .null, .null, .null, .null, .null, .null, .null, .null, .null, .null, .null, .null, .int 0, .int 0, .int 0, .int 0, .null, .null, .int 0])) := ⟨_, rfl⟩
  have hP : va_P D vwCl (wc bs 50 C10) H := by rw [eC10]; exact hP
  have hO : C10 44 = .inr (10, [.ref (bs + 45), .ref (bs + 46), .ref (bs + 47), .ref (bs + 48), .ref (bs + 49), .null, .int 0, .int 0, .int 0, .int 0, .null, .int 0, .int 0, .int 0, .int 0, .int 0, .null, .null, .null, .null, .null, .null, .null, .null, .int 0, .int 0, .int 0, .int 0, .null, .null, .null, .null, .null, .null, .null, .null, .null, .null, .null, .null, .null, .null, .int 0, .int 0, .int 0, .int 0, .null, .null, .int 0]) := by rw [eC10]; exact cset_eq
  refine lv_aload_n hx hb dX10_init_44 rfl (lv_at hl 0 rfl) ?_
  refine lv_bipush (v := (8 : Int32)) hx hb dX10_init_45 (by decide) ?_
  refine n_A (t0 := 0) (ty := .int) (N' := 8) (a0 := (8, .inl (fun _ => 0))) hx hb hts hK hP hz hS ac_int rfl rfl (fun _ => rfl) (fun _ => rfl) (by decide) rfl (by decide) (Nat.le_of_ble_eq_true rfl) (Nat.le_of_ble_eq_true rfl) dX10_init_47 (fun H hP hz hS => ?_)
  obtain ⟨C11, eC11⟩ : ∃ z : CW, z = cset C10 50 (.inl (y.1, 8, .inl (fun _ => 0))) := ⟨_, rfl⟩
  have hP : va_P D vwCl (wc bs 51 C11) H := by rw [eC11]; exact hP
  have hO : C11 44 = .inr (10, [.ref (bs + 45), .ref (bs + 46), .ref (bs + 47), .ref (bs + 48), .ref (bs + 49), .null, .int 0, .int 0, .int 0, .int 0, .null, .int 0, .int 0, .int 0, .int 0, .int 0, .null, .null, .null, .null, .null, .null, .null, .null, .int 0, .int 0, .int 0, .int 0, .null, .null, .null, .null, .null, .null, .null, .null, .null, .null, .null, .null, .null, .null, .int 0, .int 0, .int 0, .int 0, .null, .null, .int 0]) := by rw [eC11, cset_ne (by decide)]; exact hO
  refine W.eq (g2 := F0 m 49 ls [.ref (bs + 50), .ref (bs + 44)]) rfl ?_
  refine W.widen (k := 6) (n := 168) (by omega) (by omega) ?_
  refine p_F (K := RX10) (T := TX10) (N := 49) (ci := 10) (ty := .array .int) 44 5 tyX10 hx hb hts hown hin2 hK hP hz hS in_X10 tyX10_ok nmX10 rfl (by decide) hO (by decide) fl_159 rfl rfl (by decide +kernel) rfl rfl (Nat.le_of_ble_eq_true rfl) dX10_init_49 (fun H locs hP hz hS => ?_)
  obtain ⟨C12, eC12⟩ : ∃ z : CW, z = cset C11 44 (.inr (10, [.ref (bs + 45), .ref (bs + 46), .ref (bs + 47), .ref (bs + 48), .ref (bs + 49), .ref (bs + 50), .int 0, .int 0, .int 0, .int 0, .null, .int 0, .int 0, .int 0, .int 0, .int 0, .null, .null, .null, .null, .null, .null, .null, .null, .int 0, .int 0, .int 0, .int 0, .null, .null, .null, .null, .null, .null, .null, .null, .null, .null, .null, .null, .null, .null, .int 0, .int 0, .int 0, .int 0, .null, .null, .int 0])) := ⟨_, rfl⟩
  have hP : va_P D vwCl (wc bs 51 C12) H := by rw [eC12]; exact hP
  have hO : C12 44 = .inr (10, [.ref (bs + 45), .ref (bs + 46), .ref (bs + 47), .ref (bs + 48), .ref (bs + 49), .ref (bs + 50), .int 0, .int 0, .int 0, .int 0, .null, .int 0, .int 0, .int 0, .int 0, .int 0, .null, .null, .null, .null, .null, .null, .null, .null, .int 0, .int 0, .int 0, .int 0, .null, .null, .null, .null, .null, .null, .null, .null, .null, .null, .null, .null, .null, .null, .int 0, .int 0, .int 0, .int 0, .null, .null, .int 0]) := by rw [eC12]; exact cset_eq
  refine lv_aload_n hx hb dX10_init_52 rfl (lv_at hl 0 rfl) ?_
  refine lv_bipush (v := (9 : Int32)) hx hb dX10_init_53 (by decide) ?_
  refine n_A (t0 := 0) (ty := .int) (N' := 9) (a0 := (9, .inl (fun _ => 0))) hx hb hts hK hP hz hS ac_int rfl rfl (fun _ => rfl) (fun _ => rfl) (by decide) rfl (by decide) (Nat.le_of_ble_eq_true rfl) (Nat.le_of_ble_eq_true rfl) dX10_init_55 (fun H hP hz hS => ?_)
  obtain ⟨C13, eC13⟩ : ∃ z : CW, z = cset C12 51 (.inl (y.1, 9, .inl (fun _ => 0))) := ⟨_, rfl⟩
  have hP : va_P D vwCl (wc bs 52 C13) H := by rw [eC13]; exact hP
  have hO : C13 44 = .inr (10, [.ref (bs + 45), .ref (bs + 46), .ref (bs + 47), .ref (bs + 48), .ref (bs + 49), .ref (bs + 50), .int 0, .int 0, .int 0, .int 0, .null, .int 0, .int 0, .int 0, .int 0, .int 0, .null, .null, .null, .null, .null, .null, .null, .null, .int 0, .int 0, .int 0, .int 0, .null, .null, .null, .null, .null, .null, .null, .null, .null, .null, .null, .null, .null, .null, .int 0, .int 0, .int 0, .int 0, .null, .null, .int 0]) := by rw [eC13, cset_ne (by decide)]; exact hO
  refine W.eq (g2 := F0 m 57 ls [.ref (bs + 51), .ref (bs + 44)]) rfl ?_
  refine W.widen (k := 7) (n := 177) (by omega) (by omega) ?_
  refine p_F (K := RX10) (T := TX10) (N := 49) (ci := 10) (ty := .array .int) 44 10 tyX10 hx hb hts hown hin2 hK hP hz hS in_X10 tyX10_ok nmX10 rfl (by decide) hO (by decide) fl_140 rfl rfl (by decide +kernel) rfl rfl (Nat.le_of_ble_eq_true rfl) dX10_init_57 (fun H locs hP hz hS => ?_)
  obtain ⟨C14, eC14⟩ : ∃ z : CW, z = cset C13 44 (.inr (10, [.ref (bs + 45), .ref (bs + 46), .ref (bs + 47), .ref (bs + 48), .ref (bs + 49), .ref (bs + 50), .int 0, .int 0, .int 0, .int 0, .ref (bs + 51), .int 0, .int 0, .int 0, .int 0, .int 0, .null, .null, .null, .null, .null, .null, .null, .null, .int 0, .int 0, .int 0, .int 0, .null, .null, .null, .null, .null, .null, .null, .null, .null, .null, .null, .null, .null, .null, .int 0, .int 0, .int 0, .int 0, .null, .null, .int 0])) := ⟨_, rfl⟩
  have hP : va_P D vwCl (wc bs 52 C14) H := by rw [eC14]; exact hP
  have hO : C14 44 = .inr (10, [.ref (bs + 45), .ref (bs + 46), .ref (bs + 47), .ref (bs + 48), .ref (bs + 49), .ref (bs + 50), .int 0, .int 0, .int 0, .int 0, .ref (bs + 51), .int 0, .int 0, .int 0, .int 0, .int 0, .null, .null, .null, .null, .null, .null, .null, .null, .int 0, .int 0, .int 0, .int 0, .null, .null, .null, .null, .null, .null, .null, .null, .null, .null, .null, .null, .null, .null, .int 0, .int 0, .int 0, .int 0, .null, .null, .int 0]) := by rw [eC14]; exact cset_eq
  refine lv_aload_n hx hb dX10_init_60 rfl (lv_at hl 0 rfl) ?_
  refine lv_sipush (v := (1280 : Int32)) hx hb dX10_init_61 (by decide) ?_
  refine n_A (t0 := 0) (ty := .int) (N' := 1280) (a0 := (1280, .inl (fun _ => 0))) hx hb hts hK hP hz hS ac_int rfl rfl (fun _ => rfl) (fun _ => rfl) (by decide) rfl (by decide) (Nat.le_of_ble_eq_true rfl) (Nat.le_of_ble_eq_true rfl) dX10_init_64 (fun H hP hz hS => ?_)
  obtain ⟨C15, eC15⟩ : ∃ z : CW, z = cset C14 52 (.inl (y.1, 1280, .inl (fun _ => 0))) := ⟨_, rfl⟩
  have hP : va_P D vwCl (wc bs 53 C15) H := by rw [eC15]; exact hP
  have hO : C15 44 = .inr (10, [.ref (bs + 45), .ref (bs + 46), .ref (bs + 47), .ref (bs + 48), .ref (bs + 49), .ref (bs + 50), .int 0, .int 0, .int 0, .int 0, .ref (bs + 51), .int 0, .int 0, .int 0, .int 0, .int 0, .null, .null, .null, .null, .null, .null, .null, .null, .int 0, .int 0, .int 0, .int 0, .null, .null, .null, .null, .null, .null, .null, .null, .null, .null, .null, .null, .null, .null, .int 0, .int 0, .int 0, .int 0, .null, .null, .int 0]) := by rw [eC15, cset_ne (by decide)]; exact hO
  refine W.eq (g2 := F0 m 66 ls [.ref (bs + 52), .ref (bs + 44)]) rfl ?_
  refine W.widen (k := 8) (n := 1457) (by omega) (by omega) ?_
  refine p_F (K := RX10) (T := TX10) (N := 49) (ci := 10) (ty := .array .int) 44 16 tyX10 hx hb hts hown hin2 hK hP hz hS in_X10 tyX10_ok nmX10 rfl (by decide) hO (by decide) fl_161 rfl rfl (by decide +kernel) rfl rfl (Nat.le_of_ble_eq_true rfl) dX10_init_66 (fun H locs hP hz hS => ?_)
  obtain ⟨C16, eC16⟩ : ∃ z : CW, z = cset C15 44 (.inr (10, [.ref (bs + 45), .ref (bs + 46), .ref (bs + 47), .ref (bs + 48), .ref (bs + 49), .ref (bs + 50), .int 0, .int 0, .int 0, .int 0, .ref (bs + 51), .int 0, .int 0, .int 0, .int 0, .int 0, .ref (bs + 52), .null, .null, .null, .null, .null, .null, .null, .int 0, .int 0, .int 0, .int 0, .null, .null, .null, .null, .null, .null, .null, .null, .null, .null, .null, .null, .null, .null, .int 0, .int 0, .int 0, .int 0, .null, .null, .int 0])) := ⟨_, rfl⟩
  have hP : va_P D vwCl (wc bs 53 C16) H := by rw [eC16]; exact hP
  have hO : C16 44 = .inr (10, [.ref (bs + 45), .ref (bs + 46), .ref (bs + 47), .ref (bs + 48), .ref (bs + 49), .ref (bs + 50), .int 0, .int 0, .int 0, .int 0, .ref (bs + 51), .int 0, .int 0, .int 0, .int 0, .int 0, .ref (bs + 52), .null, .null, .null, .null, .null, .null, .null, .int 0, .int 0, .int 0, .int 0, .null, .null, .null, .null, .null, .null, .null, .null, .null, .null, .null, .null, .null, .null, .int 0, .int 0, .int 0, .int 0, .null, .null, .int 0]) := by rw [eC16]; exact cset_eq
  refine lv_aload_n hx hb dX10_init_69 rfl (lv_at hl 0 rfl) ?_
  refine lv_bipush (v := (32 : Int32)) hx hb dX10_init_70 (by decide) ?_
  refine n_A (t0 := 0) (ty := .int) (N' := 32) (a0 := (32, .inl (fun _ => 0))) hx hb hts hK hP hz hS ac_int rfl rfl (fun _ => rfl) (fun _ => rfl) (by decide) rfl (by decide) (Nat.le_of_ble_eq_true rfl) (Nat.le_of_ble_eq_true rfl) dX10_init_72 (fun H hP hz hS => ?_)
  obtain ⟨C17, eC17⟩ : ∃ z : CW, z = cset C16 53 (.inl (y.1, 32, .inl (fun _ => 0))) := ⟨_, rfl⟩
  have hP : va_P D vwCl (wc bs 54 C17) H := by rw [eC17]; exact hP
  have hO : C17 44 = .inr (10, [.ref (bs + 45), .ref (bs + 46), .ref (bs + 47), .ref (bs + 48), .ref (bs + 49), .ref (bs + 50), .int 0, .int 0, .int 0, .int 0, .ref (bs + 51), .int 0, .int 0, .int 0, .int 0, .int 0, .ref (bs + 52), .null, .null, .null, .null, .null, .null, .null, .int 0, .int 0, .int 0, .int 0, .null, .null, .null, .null, .null, .null, .null, .null, .null, .null, .null, .null, .null, .null, .int 0, .int 0, .int 0, .int 0, .null, .null, .int 0]) := by rw [eC17, cset_ne (by decide)]; exact hO
  refine W.eq (g2 := F0 m 74 ls [.ref (bs + 53), .ref (bs + 44)]) rfl ?_
  refine W.widen (k := 9) (n := 1489) (by omega) (by omega) ?_
  refine p_F (K := RX10) (T := TX10) (N := 49) (ci := 10) (ty := .array .int) 44 17 tyX10 hx hb hts hown hin2 hK hP hz hS in_X10 tyX10_ok nmX10 rfl (by decide) hO (by decide) fl_162 rfl rfl (by decide +kernel) rfl rfl (Nat.le_of_ble_eq_true rfl) dX10_init_74 (fun H locs hP hz hS => ?_)
  obtain ⟨C18, eC18⟩ : ∃ z : CW, z = cset C17 44 (.inr (10, [.ref (bs + 45), .ref (bs + 46), .ref (bs + 47), .ref (bs + 48), .ref (bs + 49), .ref (bs + 50), .int 0, .int 0, .int 0, .int 0, .ref (bs + 51), .int 0, .int 0, .int 0, .int 0, .int 0, .ref (bs + 52), .ref (bs + 53), .null, .null, .null, .null, .null, .null, .int 0, .int 0, .int 0, .int 0, .null, .null, .null, .null, .null, .null, .null, .null, .null, .null, .null, .null, .null, .null, .int 0, .int 0, .int 0, .int 0, .null, .null, .int 0])) := ⟨_, rfl⟩
  have hP : va_P D vwCl (wc bs 54 C18) H := by rw [eC18]; exact hP
  have hO : C18 44 = .inr (10, [.ref (bs + 45), .ref (bs + 46), .ref (bs + 47), .ref (bs + 48), .ref (bs + 49), .ref (bs + 50), .int 0, .int 0, .int 0, .int 0, .ref (bs + 51), .int 0, .int 0, .int 0, .int 0, .int 0, .ref (bs + 52), .ref (bs + 53), .null, .null, .null, .null, .null, .null, .int 0, .int 0, .int 0, .int 0, .null, .null, .null, .null, .null, .null, .null, .null, .null, .null, .null, .null, .null, .null, .int 0, .int 0, .int 0, .int 0, .null, .null, .int 0]) := by rw [eC18]; exact cset_eq
  refine lv_aload_n hx hb dX10_init_77 rfl (lv_at hl 0 rfl) ?_
  refine lv_bipush (v := (32 : Int32)) hx hb dX10_init_78 (by decide) ?_
  refine n_A (t0 := 0) (ty := .int) (N' := 32) (a0 := (32, .inl (fun _ => 0))) hx hb hts hK hP hz hS ac_int rfl rfl (fun _ => rfl) (fun _ => rfl) (by decide) rfl (by decide) (Nat.le_of_ble_eq_true rfl) (Nat.le_of_ble_eq_true rfl) dX10_init_80 (fun H hP hz hS => ?_)
  obtain ⟨C19, eC19⟩ : ∃ z : CW, z = cset C18 54 (.inl (y.1, 32, .inl (fun _ => 0))) := ⟨_, rfl⟩
  have hP : va_P D vwCl (wc bs 55 C19) H := by rw [eC19]; exact hP
  have hO : C19 44 = .inr (10, [.ref (bs + 45), .ref (bs + 46), .ref (bs + 47), .ref (bs + 48), .ref (bs + 49), .ref (bs + 50), .int 0, .int 0, .int 0, .int 0, .ref (bs + 51), .int 0, .int 0, .int 0, .int 0, .int 0, .ref (bs + 52), .ref (bs + 53), .null, .null, .null, .null, .null, .null, .int 0, .int 0, .int 0, .int 0, .null, .null, .null, .null, .null, .null, .null, .null, .null, .null, .null, .null, .null, .null, .int 0, .int 0, .int 0, .int 0, .null, .null, .int 0]) := by rw [eC19, cset_ne (by decide)]; exact hO
  refine W.eq (g2 := F0 m 82 ls [.ref (bs + 54), .ref (bs + 44)]) rfl ?_
  refine W.widen (k := 10) (n := 1521) (by omega) (by omega) ?_
  refine p_F (K := RX10) (T := TX10) (N := 49) (ci := 10) (ty := .array .int) 44 18 tyX10 hx hb hts hown hin2 hK hP hz hS in_X10 tyX10_ok nmX10 rfl (by decide) hO (by decide) fl_160 rfl rfl (by decide +kernel) rfl rfl (Nat.le_of_ble_eq_true rfl) dX10_init_82 (fun H locs hP hz hS => ?_)
  obtain ⟨C20, eC20⟩ : ∃ z : CW, z = cset C19 44 (.inr (10, [.ref (bs + 45), .ref (bs + 46), .ref (bs + 47), .ref (bs + 48), .ref (bs + 49), .ref (bs + 50), .int 0, .int 0, .int 0, .int 0, .ref (bs + 51), .int 0, .int 0, .int 0, .int 0, .int 0, .ref (bs + 52), .ref (bs + 53), .ref (bs + 54), .null, .null, .null, .null, .null, .int 0, .int 0, .int 0, .int 0, .null, .null, .null, .null, .null, .null, .null, .null, .null, .null, .null, .null, .null, .null, .int 0, .int 0, .int 0, .int 0, .null, .null, .int 0])) := ⟨_, rfl⟩
  have hP : va_P D vwCl (wc bs 55 C20) H := by rw [eC20]; exact hP
  have hO : C20 44 = .inr (10, [.ref (bs + 45), .ref (bs + 46), .ref (bs + 47), .ref (bs + 48), .ref (bs + 49), .ref (bs + 50), .int 0, .int 0, .int 0, .int 0, .ref (bs + 51), .int 0, .int 0, .int 0, .int 0, .int 0, .ref (bs + 52), .ref (bs + 53), .ref (bs + 54), .null, .null, .null, .null, .null, .int 0, .int 0, .int 0, .int 0, .null, .null, .null, .null, .null, .null, .null, .null, .null, .null, .null, .null, .null, .null, .int 0, .int 0, .int 0, .int 0, .null, .null, .int 0]) := by rw [eC20]; exact cset_eq
  refine lv_aload_n hx hb dX10_init_85 rfl (lv_at hl 0 rfl) ?_
  refine lv_bipush (v := (32 : Int32)) hx hb dX10_init_86 (by decide) ?_
  refine n_A (t0 := 2) (ty := .boolean) (N' := 32) (a0 := (32, .inl (fun _ => 0))) hx hb hts hK hP hz hS ac_boolean rfl rfl (fun _ => rfl) (fun _ => rfl) (by decide) rfl (by decide) (Nat.le_of_ble_eq_true rfl) (Nat.le_of_ble_eq_true rfl) dX10_init_88 (fun H hP hz hS => ?_)
  obtain ⟨C21, eC21⟩ : ∃ z : CW, z = cset C20 55 (.inl (y.2.2.1, 32, .inl (fun _ => 0))) := ⟨_, rfl⟩
  have hP : va_P D vwCl (wc bs 56 C21) H := by rw [eC21]; exact hP
  have hO : C21 44 = .inr (10, [.ref (bs + 45), .ref (bs + 46), .ref (bs + 47), .ref (bs + 48), .ref (bs + 49), .ref (bs + 50), .int 0, .int 0, .int 0, .int 0, .ref (bs + 51), .int 0, .int 0, .int 0, .int 0, .int 0, .ref (bs + 52), .ref (bs + 53), .ref (bs + 54), .null, .null, .null, .null, .null, .int 0, .int 0, .int 0, .int 0, .null, .null, .null, .null, .null, .null, .null, .null, .null, .null, .null, .null, .null, .null, .int 0, .int 0, .int 0, .int 0, .null, .null, .int 0]) := by rw [eC21, cset_ne (by decide)]; exact hO
  refine W.eq (g2 := F0 m 90 ls [.ref (bs + 55), .ref (bs + 44)]) rfl ?_
  refine W.widen (k := 11) (n := 1553) (by omega) (by omega) ?_
  refine p_F (K := RX10) (T := TX10) (N := 49) (ci := 10) (ty := .array .boolean) 44 19 tyX10 hx hb hts hown hin2 hK hP hz hS in_X10 tyX10_ok nmX10 rfl (by decide) hO (by decide) fl_167 rfl rfl (by decide +kernel) rfl rfl (Nat.le_of_ble_eq_true rfl) dX10_init_90 (fun H locs hP hz hS => ?_)
  obtain ⟨C22, eC22⟩ : ∃ z : CW, z = cset C21 44 (.inr (10, [.ref (bs + 45), .ref (bs + 46), .ref (bs + 47), .ref (bs + 48), .ref (bs + 49), .ref (bs + 50), .int 0, .int 0, .int 0, .int 0, .ref (bs + 51), .int 0, .int 0, .int 0, .int 0, .int 0, .ref (bs + 52), .ref (bs + 53), .ref (bs + 54), .ref (bs + 55), .null, .null, .null, .null, .int 0, .int 0, .int 0, .int 0, .null, .null, .null, .null, .null, .null, .null, .null, .null, .null, .null, .null, .null, .null, .int 0, .int 0, .int 0, .int 0, .null, .null, .int 0])) := ⟨_, rfl⟩
  have hP : va_P D vwCl (wc bs 56 C22) H := by rw [eC22]; exact hP
  have hO : C22 44 = .inr (10, [.ref (bs + 45), .ref (bs + 46), .ref (bs + 47), .ref (bs + 48), .ref (bs + 49), .ref (bs + 50), .int 0, .int 0, .int 0, .int 0, .ref (bs + 51), .int 0, .int 0, .int 0, .int 0, .int 0, .ref (bs + 52), .ref (bs + 53), .ref (bs + 54), .ref (bs + 55), .null, .null, .null, .null, .int 0, .int 0, .int 0, .int 0, .null, .null, .null, .null, .null, .null, .null, .null, .null, .null, .null, .null, .null, .null, .int 0, .int 0, .int 0, .int 0, .null, .null, .int 0]) := by rw [eC22]; exact cset_eq
  refine lv_aload_n hx hb dX10_init_93 rfl (lv_at hl 0 rfl) ?_
  refine lv_sipush (v := (128 : Int32)) hx hb dX10_init_94 (by decide) ?_
  refine n_A (t0 := 0) (ty := .int) (N' := 128) (a0 := (128, .inl (fun _ => 0))) hx hb hts hK hP hz hS ac_int rfl rfl (fun _ => rfl) (fun _ => rfl) (by decide) rfl (by decide) (Nat.le_of_ble_eq_true rfl) (Nat.le_of_ble_eq_true rfl) dX10_init_97 (fun H hP hz hS => ?_)
  obtain ⟨C23, eC23⟩ : ∃ z : CW, z = cset C22 56 (.inl (y.1, 128, .inl (fun _ => 0))) := ⟨_, rfl⟩
  have hP : va_P D vwCl (wc bs 57 C23) H := by rw [eC23]; exact hP
  have hO : C23 44 = .inr (10, [.ref (bs + 45), .ref (bs + 46), .ref (bs + 47), .ref (bs + 48), .ref (bs + 49), .ref (bs + 50), .int 0, .int 0, .int 0, .int 0, .ref (bs + 51), .int 0, .int 0, .int 0, .int 0, .int 0, .ref (bs + 52), .ref (bs + 53), .ref (bs + 54), .ref (bs + 55), .null, .null, .null, .null, .int 0, .int 0, .int 0, .int 0, .null, .null, .null, .null, .null, .null, .null, .null, .null, .null, .null, .null, .null, .null, .int 0, .int 0, .int 0, .int 0, .null, .null, .int 0]) := by rw [eC23, cset_ne (by decide)]; exact hO
  refine W.eq (g2 := F0 m 99 ls [.ref (bs + 56), .ref (bs + 44)]) rfl ?_
  refine W.widen (k := 12) (n := 1681) (by omega) (by omega) ?_
  refine p_F (K := RX10) (T := TX10) (N := 49) (ci := 10) (ty := .array .int) 44 20 tyX10 hx hb hts hown hin2 hK hP hz hS in_X10 tyX10_ok nmX10 rfl (by decide) hO (by decide) fl_165 rfl rfl (by decide +kernel) rfl rfl (Nat.le_of_ble_eq_true rfl) dX10_init_99 (fun H locs hP hz hS => ?_)
  obtain ⟨C24, eC24⟩ : ∃ z : CW, z = cset C23 44 (.inr (10, [.ref (bs + 45), .ref (bs + 46), .ref (bs + 47), .ref (bs + 48), .ref (bs + 49), .ref (bs + 50), .int 0, .int 0, .int 0, .int 0, .ref (bs + 51), .int 0, .int 0, .int 0, .int 0, .int 0, .ref (bs + 52), .ref (bs + 53), .ref (bs + 54), .ref (bs + 55), .ref (bs + 56), .null, .null, .null, .int 0, .int 0, .int 0, .int 0, .null, .null, .null, .null, .null, .null, .null, .null, .null, .null, .null, .null, .null, .null, .int 0, .int 0, .int 0, .int 0, .null, .null, .int 0])) := ⟨_, rfl⟩
  have hP : va_P D vwCl (wc bs 57 C24) H := by rw [eC24]; exact hP
  have hO : C24 44 = .inr (10, [.ref (bs + 45), .ref (bs + 46), .ref (bs + 47), .ref (bs + 48), .ref (bs + 49), .ref (bs + 50), .int 0, .int 0, .int 0, .int 0, .ref (bs + 51), .int 0, .int 0, .int 0, .int 0, .int 0, .ref (bs + 52), .ref (bs + 53), .ref (bs + 54), .ref (bs + 55), .ref (bs + 56), .null, .null, .null, .int 0, .int 0, .int 0, .int 0, .null, .null, .null, .null, .null, .null, .null, .null, .null, .null, .null, .null, .null, .null, .int 0, .int 0, .int 0, .int 0, .null, .null, .int 0]) := by rw [eC24]; exact cset_eq
  refine lv_aload_n hx hb dX10_init_102 rfl (lv_at hl 0 rfl) ?_
  refine lv_bipush (v := (32 : Int32)) hx hb dX10_init_103 (by decide) ?_
  refine n_A (t0 := 0) (ty := .int) (N' := 32) (a0 := (32, .inl (fun _ => 0))) hx hb hts hK hP hz hS ac_int rfl rfl (fun _ => rfl) (fun _ => rfl) (by decide) rfl (by decide) (Nat.le_of_ble_eq_true rfl) (Nat.le_of_ble_eq_true rfl) dX10_init_105 (fun H hP hz hS => ?_)
  obtain ⟨C25, eC25⟩ : ∃ z : CW, z = cset C24 57 (.inl (y.1, 32, .inl (fun _ => 0))) := ⟨_, rfl⟩
  have hP : va_P D vwCl (wc bs 58 C25) H := by rw [eC25]; exact hP
  have hO : C25 44 = .inr (10, [.ref (bs + 45), .ref (bs + 46), .ref (bs + 47), .ref (bs + 48), .ref (bs + 49), .ref (bs + 50), .int 0, .int 0, .int 0, .int 0, .ref (bs + 51), .int 0, .int 0, .int 0, .int 0, .int 0, .ref (bs + 52), .ref (bs + 53), .ref (bs + 54), .ref (bs + 55), .ref (bs + 56), .null, .null, .null, .int 0, .int 0, .int 0, .int 0, .null, .null, .null, .null, .null, .null, .null, .null, .null, .null, .null, .null, .null, .null, .int 0, .int 0, .int 0, .int 0, .null, .null, .int 0]) := by rw [eC25, cset_ne (by decide)]; exact hO
  refine W.eq (g2 := F0 m 107 ls [.ref (bs + 57), .ref (bs + 44)]) rfl ?_
  refine W.widen (k := 13) (n := 1713) (by omega) (by omega) ?_
  refine p_F (K := RX10) (T := TX10) (N := 49) (ci := 10) (ty := .array .int) 44 21 tyX10 hx hb hts hown hin2 hK hP hz hS in_X10 tyX10_ok nmX10 rfl (by decide) hO (by decide) fl_164 rfl rfl (by decide +kernel) rfl rfl (Nat.le_of_ble_eq_true rfl) dX10_init_107 (fun H locs hP hz hS => ?_)
  obtain ⟨C26, eC26⟩ : ∃ z : CW, z = cset C25 44 (.inr (10, [.ref (bs + 45), .ref (bs + 46), .ref (bs + 47), .ref (bs + 48), .ref (bs + 49), .ref (bs + 50), .int 0, .int 0, .int 0, .int 0, .ref (bs + 51), .int 0, .int 0, .int 0, .int 0, .int 0, .ref (bs + 52), .ref (bs + 53), .ref (bs + 54), .ref (bs + 55), .ref (bs + 56), .ref (bs + 57), .null, .null, .int 0, .int 0, .int 0, .int 0, .null, .null, .null, .null, .null, .null, .null, .null, .null, .null, .null, .null, .null, .null, .int 0, .int 0, .int 0, .int 0, .null, .null, .int 0])) := ⟨_, rfl⟩
  have hP : va_P D vwCl (wc bs 58 C26) H := by rw [eC26]; exact hP
  have hO : C26 44 = .inr (10, [.ref (bs + 45), .ref (bs + 46), .ref (bs + 47), .ref (bs + 48), .ref (bs + 49), .ref (bs + 50), .int 0, .int 0, .int 0, .int 0, .ref (bs + 51), .int 0, .int 0, .int 0, .int 0, .int 0, .ref (bs + 52), .ref (bs + 53), .ref (bs + 54), .ref (bs + 55), .ref (bs + 56), .ref (bs + 57), .null, .null, .int 0, .int 0, .int 0, .int 0, .null, .null, .null, .null, .null, .null, .null, .null, .null, .null, .null, .null, .null, .null, .int 0, .int 0, .int 0, .int 0, .null, .null, .int 0]) := by rw [eC26]; exact cset_eq
  refine lv_aload_n hx hb dX10_init_110 rfl (lv_at hl 0 rfl) ?_
  refine lv_bipush (v := (32 : Int32)) hx hb dX10_init_111 (by decide) ?_
  refine n_A (t0 := 0) (ty := .int) (N' := 32) (a0 := (32, .inl (fun _ => 0))) hx hb hts hK hP hz hS ac_int rfl rfl (fun _ => rfl) (fun _ => rfl) (by decide) rfl (by decide) (Nat.le_of_ble_eq_true rfl) (Nat.le_of_ble_eq_true rfl) dX10_init_113 (fun H hP hz hS => ?_)
  obtain ⟨C27, eC27⟩ : ∃ z : CW, z = cset C26 58 (.inl (y.1, 32, .inl (fun _ => 0))) := ⟨_, rfl⟩
  have hP : va_P D vwCl (wc bs 59 C27) H := by rw [eC27]; exact hP
  have hO : C27 44 = .inr (10, [.ref (bs + 45), .ref (bs + 46), .ref (bs + 47), .ref (bs + 48), .ref (bs + 49), .ref (bs + 50), .int 0, .int 0, .int 0, .int 0, .ref (bs + 51), .int 0, .int 0, .int 0, .int 0, .int 0, .ref (bs + 52), .ref (bs + 53), .ref (bs + 54), .ref (bs + 55), .ref (bs + 56), .ref (bs + 57), .null, .null, .int 0, .int 0, .int 0, .int 0, .null, .null, .null, .null, .null, .null, .null, .null, .null, .null, .null, .null, .null, .null, .int 0, .int 0, .int 0, .int 0, .null, .null, .int 0]) := by rw [eC27, cset_ne (by decide)]; exact hO
  refine W.eq (g2 := F0 m 115 ls [.ref (bs + 58), .ref (bs + 44)]) rfl ?_
  refine W.widen (k := 14) (n := 1745) (by omega) (by omega) ?_
  refine p_F (K := RX10) (T := TX10) (N := 49) (ci := 10) (ty := .array .int) 44 22 tyX10 hx hb hts hown hin2 hK hP hz hS in_X10 tyX10_ok nmX10 rfl (by decide) hO (by decide) fl_166 rfl rfl (by decide +kernel) rfl rfl (Nat.le_of_ble_eq_true rfl) dX10_init_115 (fun H locs hP hz hS => ?_)
  obtain ⟨C28, eC28⟩ : ∃ z : CW, z = cset C27 44 (.inr (10, [.ref (bs + 45), .ref (bs + 46), .ref (bs + 47), .ref (bs + 48), .ref (bs + 49), .ref (bs + 50), .int 0, .int 0, .int 0, .int 0, .ref (bs + 51), .int 0, .int 0, .int 0, .int 0, .int 0, .ref (bs + 52), .ref (bs + 53), .ref (bs + 54), .ref (bs + 55), .ref (bs + 56), .ref (bs + 57), .ref (bs + 58), .null, .int 0, .int 0, .int 0, .int 0, .null, .null, .null, .null, .null, .null, .null, .null, .null, .null, .null, .null, .null, .null, .int 0, .int 0, .int 0, .int 0, .null, .null, .int 0])) := ⟨_, rfl⟩
  have hP : va_P D vwCl (wc bs 59 C28) H := by rw [eC28]; exact hP
  have hO : C28 44 = .inr (10, [.ref (bs + 45), .ref (bs + 46), .ref (bs + 47), .ref (bs + 48), .ref (bs + 49), .ref (bs + 50), .int 0, .int 0, .int 0, .int 0, .ref (bs + 51), .int 0, .int 0, .int 0, .int 0, .int 0, .ref (bs + 52), .ref (bs + 53), .ref (bs + 54), .ref (bs + 55), .ref (bs + 56), .ref (bs + 57), .ref (bs + 58), .null, .int 0, .int 0, .int 0, .int 0, .null, .null, .null, .null, .null, .null, .null, .null, .null, .null, .null, .null, .null, .null, .int 0, .int 0, .int 0, .int 0, .null, .null, .int 0]) := by rw [eC28]; exact cset_eq
  refine lv_aload_n hx hb dX10_init_118 rfl (lv_at hl 0 rfl) ?_
  refine lv_bipush (v := (32 : Int32)) hx hb dX10_init_119 (by decide) ?_
  refine n_A (t0 := 2) (ty := .boolean) (N' := 32) (a0 := (32, .inl (fun _ => 0))) hx hb hts hK hP hz hS ac_boolean rfl rfl (fun _ => rfl) (fun _ => rfl) (by decide) rfl (by decide) (Nat.le_of_ble_eq_true rfl) (Nat.le_of_ble_eq_true rfl) dX10_init_121 (fun H hP hz hS => ?_)
  obtain ⟨C29, eC29⟩ : ∃ z : CW, z = cset C28 59 (.inl (y.2.2.1, 32, .inl (fun _ => 0))) := ⟨_, rfl⟩
  have hP : va_P D vwCl (wc bs 60 C29) H := by rw [eC29]; exact hP
  have hO : C29 44 = .inr (10, [.ref (bs + 45), .ref (bs + 46), .ref (bs + 47), .ref (bs + 48), .ref (bs + 49), .ref (bs + 50), .int 0, .int 0, .int 0, .int 0, .ref (bs + 51), .int 0, .int 0, .int 0, .int 0, .int 0, .ref (bs + 52), .ref (bs + 53), .ref (bs + 54), .ref (bs + 55), .ref (bs + 56), .ref (bs + 57), .ref (bs + 58), .null, .int 0, .int 0, .int 0, .int 0, .null, .null, .null, .null, .null, .null, .null, .null, .null, .null, .null, .null, .null, .null, .int 0, .int 0, .int 0, .int 0, .null, .null, .int 0]) := by rw [eC29, cset_ne (by decide)]; exact hO
  refine W.eq (g2 := F0 m 123 ls [.ref (bs + 59), .ref (bs + 44)]) rfl ?_
  refine W.widen (k := 15) (n := 1777) (by omega) (by omega) ?_
  refine p_F (K := RX10) (T := TX10) (N := 49) (ci := 10) (ty := .array .boolean) 44 23 tyX10 hx hb hts hown hin2 hK hP hz hS in_X10 tyX10_ok nmX10 rfl (by decide) hO (by decide) fl_163 rfl rfl (by decide +kernel) rfl rfl (Nat.le_of_ble_eq_true rfl) dX10_init_123 (fun H locs hP hz hS => ?_)
  obtain ⟨C30, eC30⟩ : ∃ z : CW, z = cset C29 44 (.inr (10, [.ref (bs + 45), .ref (bs + 46), .ref (bs + 47), .ref (bs + 48), .ref (bs + 49), .ref (bs + 50), .int 0, .int 0, .int 0, .int 0, .ref (bs + 51), .int 0, .int 0, .int 0, .int 0, .int 0, .ref (bs + 52), .ref (bs + 53), .ref (bs + 54), .ref (bs + 55), .ref (bs + 56), .ref (bs + 57), .ref (bs + 58), .ref (bs + 59), .int 0, .int 0, .int 0, .int 0, .null, .null, .null, .null, .null, .null, .null, .null, .null, .null, .null, .null, .null, .null, .int 0, .int 0, .int 0, .int 0, .null, .null, .int 0])) := ⟨_, rfl⟩
  have hP : va_P D vwCl (wc bs 60 C30) H := by rw [eC30]; exact hP
  have hO : C30 44 = .inr (10, [.ref (bs + 45), .ref (bs + 46), .ref (bs + 47), .ref (bs + 48), .ref (bs + 49), .ref (bs + 50), .int 0, .int 0, .int 0, .int 0, .ref (bs + 51), .int 0, .int 0, .int 0, .int 0, .int 0, .ref (bs + 52), .ref (bs + 53), .ref (bs + 54), .ref (bs + 55), .ref (bs + 56), .ref (bs + 57), .ref (bs + 58), .ref (bs + 59), .int 0, .int 0, .int 0, .int 0, .null, .null, .null, .null, .null, .null, .null, .null, .null, .null, .null, .null, .null, .null, .int 0, .int 0, .int 0, .int 0, .null, .null, .int 0]) := by rw [eC30]; exact cset_eq
  refine lv_aload_n hx hb dX10_init_126 rfl (lv_at hl 0 rfl) ?_
  refine lv_iconst (v := (3 : Int32)) hx hb dX10_init_127 (by decide) ?_
  refine p_N (K := RX10) (T := TX10) (N := 49) (ci := 10) (ty := .int) 44 24 tyX10 hx hb hts hown hK hP hz hS in_X10 tyX10_ok nmX10 rfl (by decide) hO (by decide) fl_168 rfl (by decide +kernel) rfl rfl (Nat.le_of_ble_eq_true rfl) dX10_init_128 (fun H locs hP hz hS => ?_)
  obtain ⟨C31, eC31⟩ : ∃ z : CW, z = cset C30 44 (.inr (10, [.ref (bs + 45), .ref (bs + 46), .ref (bs + 47), .ref (bs + 48), .ref (bs + 49), .ref (bs + 50), .int 0, .int 0, .int 0, .int 0, .ref (bs + 51), .int 0, .int 0, .int 0, .int 0, .int 0, .ref (bs + 52), .ref (bs + 53), .ref (bs + 54), .ref (bs + 55), .ref (bs + 56), .ref (bs + 57), .ref (bs + 58), .ref (bs + 59), .int (3), .int 0, .int 0, .int 0, .null, .null, .null, .null, .null, .null, .null, .null, .null, .null, .null, .null, .null, .null, .int 0, .int 0, .int 0, .int 0, .null, .null, .int 0])) := ⟨_, rfl⟩
  have hP : va_P D vwCl (wc bs 60 C31) H := by rw [eC31]; exact hP
  have hO : C31 44 = .inr (10, [.ref (bs + 45), .ref (bs + 46), .ref (bs + 47), .ref (bs + 48), .ref (bs + 49), .ref (bs + 50), .int 0, .int 0, .int 0, .int 0, .ref (bs + 51), .int 0, .int 0, .int 0, .int 0, .int 0, .ref (bs + 52), .ref (bs + 53), .ref (bs + 54), .ref (bs + 55), .ref (bs + 56), .ref (bs + 57), .ref (bs + 58), .ref (bs + 59), .int (3), .int 0, .int 0, .int 0, .null, .null, .null, .null, .null, .null, .null, .null, .null, .null, .null, .null, .null, .null, .int 0, .int 0, .int 0, .int 0, .null, .null, .int 0]) := by rw [eC31]; exact cset_eq
  refine lv_aload_n hx hb dX10_init_131 rfl (lv_at hl 0 rfl) ?_
  refine lv_iconst (v := (3 : Int32)) hx hb dX10_init_132 (by decide) ?_
  refine p_N (K := RX10) (T := TX10) (N := 49) (ci := 10) (ty := .int) 44 25 tyX10 hx hb hts hown hK hP hz hS in_X10 tyX10_ok nmX10 rfl (by decide) hO (by decide) fl_169 rfl (by decide +kernel) rfl rfl (Nat.le_of_ble_eq_true rfl) dX10_init_133 (fun H locs hP hz hS => ?_)
  obtain ⟨C32, eC32⟩ : ∃ z : CW, z = cset C31 44 (.inr (10, [.ref (bs + 45), .ref (bs + 46), .ref (bs + 47), .ref (bs + 48), .ref (bs + 49), .ref (bs + 50), .int 0, .int 0, .int 0, .int 0, .ref (bs + 51), .int 0, .int 0, .int 0, .int 0, .int 0, .ref (bs + 52), .ref (bs + 53), .ref (bs + 54), .ref (bs + 55), .ref (bs + 56), .ref (bs + 57), .ref (bs + 58), .ref (bs + 59), .int (3), .int (3), .int 0, .int 0, .null, .null, .null, .null, .null, .null, .null, .null, .null, .null, .null, .null, .null, .null, .int 0, .int 0, .int 0, .int 0, .null, .null, .int 0])) := ⟨_, rfl⟩
  have hP : va_P D vwCl (wc bs 60 C32) H := by rw [eC32]; exact hP
  have hO : C32 44 = .inr (10, [.ref (bs + 45), .ref (bs + 46), .ref (bs + 47), .ref (bs + 48), .ref (bs + 49), .ref (bs + 50), .int 0, .int 0, .int 0, .int 0, .ref (bs + 51), .int 0, .int 0, .int 0, .int 0, .int 0, .ref (bs + 52), .ref (bs + 53), .ref (bs + 54), .ref (bs + 55), .ref (bs + 56), .ref (bs + 57), .ref (bs + 58), .ref (bs + 59), .int (3), .int (3), .int 0, .int 0, .null, .null, .null, .null, .null, .null, .null, .null, .null, .null, .null, .null, .null, .null, .int 0, .int 0, .int 0, .int 0, .null, .null, .int 0]) := by rw [eC32]; exact cset_eq
  refine lv_aload_n hx hb dX10_init_136 rfl (lv_at hl 0 rfl) ?_
  refine lv_iconst (v := (2 : Int32)) hx hb dX10_init_137 (by decide) ?_
  refine p_N (K := RX10) (T := TX10) (N := 49) (ci := 10) (ty := .int) 44 26 tyX10 hx hb hts hown hK hP hz hS in_X10 tyX10_ok nmX10 rfl (by decide) hO (by decide) fl_171 rfl (by decide +kernel) rfl rfl (Nat.le_of_ble_eq_true rfl) dX10_init_138 (fun H locs hP hz hS => ?_)
  obtain ⟨C33, eC33⟩ : ∃ z : CW, z = cset C32 44 (.inr (10, [.ref (bs + 45), .ref (bs + 46), .ref (bs + 47), .ref (bs + 48), .ref (bs + 49), .ref (bs + 50), .int 0, .int 0, .int 0, .int 0, .ref (bs + 51), .int 0, .int 0, .int 0, .int 0, .int 0, .ref (bs + 52), .ref (bs + 53), .ref (bs + 54), .ref (bs + 55), .ref (bs + 56), .ref (bs + 57), .ref (bs + 58), .ref (bs + 59), .int (3), .int (3), .int (2), .int 0, .null, .null, .null, .null, .null, .null, .null, .null, .null, .null, .null, .null, .null, .null, .int 0, .int 0, .int 0, .int 0, .null, .null, .int 0])) := ⟨_, rfl⟩
  have hP : va_P D vwCl (wc bs 60 C33) H := by rw [eC33]; exact hP
  have hO : C33 44 = .inr (10, [.ref (bs + 45), .ref (bs + 46), .ref (bs + 47), .ref (bs + 48), .ref (bs + 49), .ref (bs + 50), .int 0, .int 0, .int 0, .int 0, .ref (bs + 51), .int 0, .int 0, .int 0, .int 0, .int 0, .ref (bs + 52), .ref (bs + 53), .ref (bs + 54), .ref (bs + 55), .ref (bs + 56), .ref (bs + 57), .ref (bs + 58), .ref (bs + 59), .int (3), .int (3), .int (2), .int 0, .null, .null, .null, .null, .null, .null, .null, .null, .null, .null, .null, .null, .null, .null, .int 0, .int 0, .int 0, .int 0, .null, .null, .int 0]) := by rw [eC33]; exact cset_eq
  refine lv_aload_n hx hb dX10_init_141 rfl (lv_at hl 0 rfl) ?_
  refine lv_iconst (v := (2 : Int32)) hx hb dX10_init_142 (by decide) ?_
  refine p_N (K := RX10) (T := TX10) (N := 49) (ci := 10) (ty := .int) 44 27 tyX10 hx hb hts hown hK hP hz hS in_X10 tyX10_ok nmX10 rfl (by decide) hO (by decide) fl_172 rfl (by decide +kernel) rfl rfl (Nat.le_of_ble_eq_true rfl) dX10_init_143 (fun H locs hP hz hS => ?_)
  obtain ⟨C34, eC34⟩ : ∃ z : CW, z = cset C33 44 (.inr (10, [.ref (bs + 45), .ref (bs + 46), .ref (bs + 47), .ref (bs + 48), .ref (bs + 49), .ref (bs + 50), .int 0, .int 0, .int 0, .int 0, .ref (bs + 51), .int 0, .int 0, .int 0, .int 0, .int 0, .ref (bs + 52), .ref (bs + 53), .ref (bs + 54), .ref (bs + 55), .ref (bs + 56), .ref (bs + 57), .ref (bs + 58), .ref (bs + 59), .int (3), .int (3), .int (2), .int (2), .null, .null, .null, .null, .null, .null, .null, .null, .null, .null, .null, .null, .null, .null, .int 0, .int 0, .int 0, .int 0, .null, .null, .int 0])) := ⟨_, rfl⟩
  have hP : va_P D vwCl (wc bs 60 C34) H := by rw [eC34]; exact hP
  have hO : C34 44 = .inr (10, [.ref (bs + 45), .ref (bs + 46), .ref (bs + 47), .ref (bs + 48), .ref (bs + 49), .ref (bs + 50), .int 0, .int 0, .int 0, .int 0, .ref (bs + 51), .int 0, .int 0, .int 0, .int 0, .int 0, .ref (bs + 52), .ref (bs + 53), .ref (bs + 54), .ref (bs + 55), .ref (bs + 56), .ref (bs + 57), .ref (bs + 58), .ref (bs + 59), .int (3), .int (3), .int (2), .int (2), .null, .null, .null, .null, .null, .null, .null, .null, .null, .null, .null, .null, .null, .null, .int 0, .int 0, .int 0, .int 0, .null, .null, .int 0]) := by rw [eC34]; exact cset_eq
  refine lv_aload_n hx hb dX10_init_146 rfl (lv_at hl 0 rfl) ?_
  refine lv_bipush (v := (36 : Int32)) hx hb dX10_init_147 (by decide) ?_
  refine n_A (t0 := 2) (ty := .boolean) (N' := 36) (a0 := (36, .inl (fun _ => 0))) hx hb hts hK hP hz hS ac_boolean rfl rfl (fun _ => rfl) (fun _ => rfl) (by decide) rfl (by decide) (Nat.le_of_ble_eq_true rfl) (Nat.le_of_ble_eq_true rfl) dX10_init_149 (fun H hP hz hS => ?_)
  obtain ⟨C35, eC35⟩ : ∃ z : CW, z = cset C34 60 (.inl (y.2.2.1, 36, .inl (fun _ => 0))) := ⟨_, rfl⟩
  have hP : va_P D vwCl (wc bs 61 C35) H := by rw [eC35]; exact hP
  have hO : C35 44 = .inr (10, [.ref (bs + 45), .ref (bs + 46), .ref (bs + 47), .ref (bs + 48), .ref (bs + 49), .ref (bs + 50), .int 0, .int 0, .int 0, .int 0, .ref (bs + 51), .int 0, .int 0, .int 0, .int 0, .int 0, .ref (bs + 52), .ref (bs + 53), .ref (bs + 54), .ref (bs + 55), .ref (bs + 56), .ref (bs + 57), .ref (bs + 58), .ref (bs + 59), .int (3), .int (3), .int (2), .int (2), .null, .null, .null, .null, .null, .null, .null, .null, .null, .null, .null, .null, .null, .null, .int 0, .int 0, .int 0, .int 0, .null, .null, .int 0]) := by rw [eC35, cset_ne (by decide)]; exact hO
  refine W.eq (g2 := F0 m 151 ls [.ref (bs + 60), .ref (bs + 44)]) rfl ?_
  refine W.widen (k := 16) (n := 1813) (by omega) (by omega) ?_
  refine p_F (K := RX10) (T := TX10) (N := 49) (ci := 10) (ty := .array .boolean) 44 28 tyX10 hx hb hts hown hin2 hK hP hz hS in_X10 tyX10_ok nmX10 rfl (by decide) hO (by decide) fl_170 rfl rfl (by decide +kernel) rfl rfl (Nat.le_of_ble_eq_true rfl) dX10_init_151 (fun H locs hP hz hS => ?_)
  obtain ⟨C36, eC36⟩ : ∃ z : CW, z = cset C35 44 (.inr (10, [.ref (bs + 45), .ref (bs + 46), .ref (bs + 47), .ref (bs + 48), .ref (bs + 49), .ref (bs + 50), .int 0, .int 0, .int 0, .int 0, .ref (bs + 51), .int 0, .int 0, .int 0, .int 0, .int 0, .ref (bs + 52), .ref (bs + 53), .ref (bs + 54), .ref (bs + 55), .ref (bs + 56), .ref (bs + 57), .ref (bs + 58), .ref (bs + 59), .int (3), .int (3), .int (2), .int (2), .ref (bs + 60), .null, .null, .null, .null, .null, .null, .null, .null, .null, .null, .null, .null, .null, .int 0, .int 0, .int 0, .int 0, .null, .null, .int 0])) := ⟨_, rfl⟩
  have hP : va_P D vwCl (wc bs 61 C36) H := by rw [eC36]; exact hP
  have hO : C36 44 = .inr (10, [.ref (bs + 45), .ref (bs + 46), .ref (bs + 47), .ref (bs + 48), .ref (bs + 49), .ref (bs + 50), .int 0, .int 0, .int 0, .int 0, .ref (bs + 51), .int 0, .int 0, .int 0, .int 0, .int 0, .ref (bs + 52), .ref (bs + 53), .ref (bs + 54), .ref (bs + 55), .ref (bs + 56), .ref (bs + 57), .ref (bs + 58), .ref (bs + 59), .int (3), .int (3), .int (2), .int (2), .ref (bs + 60), .null, .null, .null, .null, .null, .null, .null, .null, .null, .null, .null, .null, .null, .int 0, .int 0, .int 0, .int 0, .null, .null, .int 0]) := by rw [eC36]; exact cset_eq
  refine lv_aload_n hx hb dX10_init_154 rfl (lv_at hl 0 rfl) ?_
  refine lv_bipush (v := (32 : Int32)) hx hb dX10_init_155 (by decide) ?_
  refine n_A (t0 := 0) (ty := .int) (N' := 32) (a0 := (32, .inl (fun _ => 0))) hx hb hts hK hP hz hS ac_int rfl rfl (fun _ => rfl) (fun _ => rfl) (by decide) rfl (by decide) (Nat.le_of_ble_eq_true rfl) (Nat.le_of_ble_eq_true rfl) dX10_init_157 (fun H hP hz hS => ?_)
  obtain ⟨C37, eC37⟩ : ∃ z : CW, z = cset C36 61 (.inl (y.1, 32, .inl (fun _ => 0))) := ⟨_, rfl⟩
  have hP : va_P D vwCl (wc bs 62 C37) H := by rw [eC37]; exact hP
  have hO : C37 44 = .inr (10, [.ref (bs + 45), .ref (bs + 46), .ref (bs + 47), .ref (bs + 48), .ref (bs + 49), .ref (bs + 50), .int 0, .int 0, .int 0, .int 0, .ref (bs + 51), .int 0, .int 0, .int 0, .int 0, .int 0, .ref (bs + 52), .ref (bs + 53), .ref (bs + 54), .ref (bs + 55), .ref (bs + 56), .ref (bs + 57), .ref (bs + 58), .ref (bs + 59), .int (3), .int (3), .int (2), .int (2), .ref (bs + 60), .null, .null, .null, .null, .null, .null, .null, .null, .null, .null, .null, .null, .null, .int 0, .int 0, .int 0, .int 0, .null, .null, .int 0]) := by rw [eC37, cset_ne (by decide)]; exact hO
  refine W.eq (g2 := F0 m 159 ls [.ref (bs + 61), .ref (bs + 44)]) rfl ?_
  refine W.widen (k := 17) (n := 1845) (by omega) (by omega) ?_
  refine p_F (K := RX10) (T := TX10) (N := 49) (ci := 10) (ty := .array .int) 44 29 tyX10 hx hb hts hown hin2 hK hP hz hS in_X10 tyX10_ok nmX10 rfl (by decide) hO (by decide) fl_173 rfl rfl (by decide +kernel) rfl rfl (Nat.le_of_ble_eq_true rfl) dX10_init_159 (fun H locs hP hz hS => ?_)
  obtain ⟨C38, eC38⟩ : ∃ z : CW, z = cset C37 44 (.inr (10, [.ref (bs + 45), .ref (bs + 46), .ref (bs + 47), .ref (bs + 48), .ref (bs + 49), .ref (bs + 50), .int 0, .int 0, .int 0, .int 0, .ref (bs + 51), .int 0, .int 0, .int 0, .int 0, .int 0, .ref (bs + 52), .ref (bs + 53), .ref (bs + 54), .ref (bs + 55), .ref (bs + 56), .ref (bs + 57), .ref (bs + 58), .ref (bs + 59), .int (3), .int (3), .int (2), .int (2), .ref (bs + 60), .ref (bs + 61), .null, .null, .null, .null, .null, .null, .null, .null, .null, .null, .null, .null, .int 0, .int 0, .int 0, .int 0, .null, .null, .int 0])) := ⟨_, rfl⟩
  have hP : va_P D vwCl (wc bs 62 C38) H := by rw [eC38]; exact hP
  have hO : C38 44 = .inr (10, [.ref (bs + 45), .ref (bs + 46), .ref (bs + 47), .ref (bs + 48), .ref (bs + 49), .ref (bs + 50), .int 0, .int 0, .int 0, .int 0, .ref (bs + 51), .int 0, .int 0, .int 0, .int 0, .int 0, .ref (bs + 52), .ref (bs + 53), .ref (bs + 54), .ref (bs + 55), .ref (bs + 56), .ref (bs + 57), .ref (bs + 58), .ref (bs + 59), .int (3), .int (3), .int (2), .int (2), .ref (bs + 60), .ref (bs + 61), .null, .null, .null, .null, .null, .null, .null, .null, .null, .null, .null, .null, .int 0, .int 0, .int 0, .int 0, .null, .null, .int 0]) := by rw [eC38]; exact cset_eq
  refine lv_aload_n hx hb dX10_init_162 rfl (lv_at hl 0 rfl) ?_
  refine lv_sipush (v := (1920 : Int32)) hx hb dX10_init_163 (by decide) ?_
  refine n_A (t0 := 2) (ty := .boolean) (N' := 1920) (a0 := (1920, .inl (fun _ => 0))) hx hb hts hK hP hz hS ac_boolean rfl rfl (fun _ => rfl) (fun _ => rfl) (by decide) rfl (by decide) (Nat.le_of_ble_eq_true rfl) (Nat.le_of_ble_eq_true rfl) dX10_init_166 (fun H hP hz hS => ?_)
  obtain ⟨C39, eC39⟩ : ∃ z : CW, z = cset C38 62 (.inl (y.2.2.1, 1920, .inl (fun _ => 0))) := ⟨_, rfl⟩
  have hP : va_P D vwCl (wc bs 63 C39) H := by rw [eC39]; exact hP
  have hO : C39 44 = .inr (10, [.ref (bs + 45), .ref (bs + 46), .ref (bs + 47), .ref (bs + 48), .ref (bs + 49), .ref (bs + 50), .int 0, .int 0, .int 0, .int 0, .ref (bs + 51), .int 0, .int 0, .int 0, .int 0, .int 0, .ref (bs + 52), .ref (bs + 53), .ref (bs + 54), .ref (bs + 55), .ref (bs + 56), .ref (bs + 57), .ref (bs + 58), .ref (bs + 59), .int (3), .int (3), .int (2), .int (2), .ref (bs + 60), .ref (bs + 61), .null, .null, .null, .null, .null, .null, .null, .null, .null, .null, .null, .null, .int 0, .int 0, .int 0, .int 0, .null, .null, .int 0]) := by rw [eC39, cset_ne (by decide)]; exact hO
  refine W.eq (g2 := F0 m 168 ls [.ref (bs + 62), .ref (bs + 44)]) rfl ?_
  refine W.widen (k := 18) (n := 3765) (by omega) (by omega) ?_
  refine p_F (K := RX10) (T := TX10) (N := 49) (ci := 10) (ty := .array .boolean) 44 30 tyX10 hx hb hts hown hin2 hK hP hz hS in_X10 tyX10_ok nmX10 rfl (by decide) hO (by decide) fl_178 rfl rfl (by decide +kernel) rfl rfl (Nat.le_of_ble_eq_true rfl) dX10_init_168 (fun H locs hP hz hS => ?_)
  obtain ⟨C40, eC40⟩ : ∃ z : CW, z = cset C39 44 (.inr (10, [.ref (bs + 45), .ref (bs + 46), .ref (bs + 47), .ref (bs + 48), .ref (bs + 49), .ref (bs + 50), .int 0, .int 0, .int 0, .int 0, .ref (bs + 51), .int 0, .int 0, .int 0, .int 0, .int 0, .ref (bs + 52), .ref (bs + 53), .ref (bs + 54), .ref (bs + 55), .ref (bs + 56), .ref (bs + 57), .ref (bs + 58), .ref (bs + 59), .int (3), .int (3), .int (2), .int (2), .ref (bs + 60), .ref (bs + 61), .ref (bs + 62), .null, .null, .null, .null, .null, .null, .null, .null, .null, .null, .null, .int 0, .int 0, .int 0, .int 0, .null, .null, .int 0])) := ⟨_, rfl⟩
  have hP : va_P D vwCl (wc bs 63 C40) H := by rw [eC40]; exact hP
  have hO : C40 44 = .inr (10, [.ref (bs + 45), .ref (bs + 46), .ref (bs + 47), .ref (bs + 48), .ref (bs + 49), .ref (bs + 50), .int 0, .int 0, .int 0, .int 0, .ref (bs + 51), .int 0, .int 0, .int 0, .int 0, .int 0, .ref (bs + 52), .ref (bs + 53), .ref (bs + 54), .ref (bs + 55), .ref (bs + 56), .ref (bs + 57), .ref (bs + 58), .ref (bs + 59), .int (3), .int (3), .int (2), .int (2), .ref (bs + 60), .ref (bs + 61), .ref (bs + 62), .null, .null, .null, .null, .null, .null, .null, .null, .null, .null, .null, .int 0, .int 0, .int 0, .int 0, .null, .null, .int 0]) := by rw [eC40]; exact cset_eq
  refine lv_aload_n hx hb dX10_init_171 rfl (lv_at hl 0 rfl) ?_
  refine lv_bipush (v := (60 : Int32)) hx hb dX10_init_172 (by decide) ?_
  refine n_A (t0 := 0) (ty := .int) (N' := 60) (a0 := (60, .inl (fun _ => 0))) hx hb hts hK hP hz hS ac_int rfl rfl (fun _ => rfl) (fun _ => rfl) (by decide) rfl (by decide) (Nat.le_of_ble_eq_true rfl) (Nat.le_of_ble_eq_true rfl) dX10_init_174 (fun H hP hz hS => ?_)
  obtain ⟨C41, eC41⟩ : ∃ z : CW, z = cset C40 63 (.inl (y.1, 60, .inl (fun _ => 0))) := ⟨_, rfl⟩
  have hP : va_P D vwCl (wc bs 64 C41) H := by rw [eC41]; exact hP
  have hO : C41 44 = .inr (10, [.ref (bs + 45), .ref (bs + 46), .ref (bs + 47), .ref (bs + 48), .ref (bs + 49), .ref (bs + 50), .int 0, .int 0, .int 0, .int 0, .ref (bs + 51), .int 0, .int 0, .int 0, .int 0, .int 0, .ref (bs + 52), .ref (bs + 53), .ref (bs + 54), .ref (bs + 55), .ref (bs + 56), .ref (bs + 57), .ref (bs + 58), .ref (bs + 59), .int (3), .int (3), .int (2), .int (2), .ref (bs + 60), .ref (bs + 61), .ref (bs + 62), .null, .null, .null, .null, .null, .null, .null, .null, .null, .null, .null, .int 0, .int 0, .int 0, .int 0, .null, .null, .int 0]) := by rw [eC41, cset_ne (by decide)]; exact hO
  refine W.eq (g2 := F0 m 176 ls [.ref (bs + 63), .ref (bs + 44)]) rfl ?_
  refine W.widen (k := 19) (n := 3825) (by omega) (by omega) ?_
  refine p_F (K := RX10) (T := TX10) (N := 49) (ci := 10) (ty := .array .int) 44 31 tyX10 hx hb hts hown hin2 hK hP hz hS in_X10 tyX10_ok nmX10 rfl (by decide) hO (by decide) fl_174 rfl rfl (by decide +kernel) rfl rfl (Nat.le_of_ble_eq_true rfl) dX10_init_176 (fun H locs hP hz hS => ?_)
  obtain ⟨C42, eC42⟩ : ∃ z : CW, z = cset C41 44 (.inr (10, [.ref (bs + 45), .ref (bs + 46), .ref (bs + 47), .ref (bs + 48), .ref (bs + 49), .ref (bs + 50), .int 0, .int 0, .int 0, .int 0, .ref (bs + 51), .int 0, .int 0, .int 0, .int 0, .int 0, .ref (bs + 52), .ref (bs + 53), .ref (bs + 54), .ref (bs + 55), .ref (bs + 56), .ref (bs + 57), .ref (bs + 58), .ref (bs + 59), .int (3), .int (3), .int (2), .int (2), .ref (bs + 60), .ref (bs + 61), .ref (bs + 62), .ref (bs + 63), .null, .null, .null, .null, .null, .null, .null, .null, .null, .null, .int 0, .int 0, .int 0, .int 0, .null, .null, .int 0])) := ⟨_, rfl⟩
  have hP : va_P D vwCl (wc bs 64 C42) H := by rw [eC42]; exact hP
  have hO : C42 44 = .inr (10, [.ref (bs + 45), .ref (bs + 46), .ref (bs + 47), .ref (bs + 48), .ref (bs + 49), .ref (bs + 50), .int 0, .int 0, .int 0, .int 0, .ref (bs + 51), .int 0, .int 0, .int 0, .int 0, .int 0, .ref (bs + 52), .ref (bs + 53), .ref (bs + 54), .ref (bs + 55), .ref (bs + 56), .ref (bs + 57), .ref (bs + 58), .ref (bs + 59), .int (3), .int (3), .int (2), .int (2), .ref (bs + 60), .ref (bs + 61), .ref (bs + 62), .ref (bs + 63), .null, .null, .null, .null, .null, .null, .null, .null, .null, .null, .int 0, .int 0, .int 0, .int 0, .null, .null, .int 0]) := by rw [eC42]; exact cset_eq
  refine lv_aload_n hx hb dX10_init_179 rfl (lv_at hl 0 rfl) ?_
  refine lv_bipush (v := (60 : Int32)) hx hb dX10_init_180 (by decide) ?_
  refine n_A (t0 := 0) (ty := .int) (N' := 60) (a0 := (60, .inl (fun _ => 0))) hx hb hts hK hP hz hS ac_int rfl rfl (fun _ => rfl) (fun _ => rfl) (by decide) rfl (by decide) (Nat.le_of_ble_eq_true rfl) (Nat.le_of_ble_eq_true rfl) dX10_init_182 (fun H hP hz hS => ?_)
  obtain ⟨C43, eC43⟩ : ∃ z : CW, z = cset C42 64 (.inl (y.1, 60, .inl (fun _ => 0))) := ⟨_, rfl⟩
  have hP : va_P D vwCl (wc bs 65 C43) H := by rw [eC43]; exact hP
  have hO : C43 44 = .inr (10, [.ref (bs + 45), .ref (bs + 46), .ref (bs + 47), .ref (bs + 48), .ref (bs + 49), .ref (bs + 50), .int 0, .int 0, .int 0, .int 0, .ref (bs + 51), .int 0, .int 0, .int 0, .int 0, .int 0, .ref (bs + 52), .ref (bs + 53), .ref (bs + 54), .ref (bs + 55), .ref (bs + 56), .ref (bs + 57), .ref (bs + 58), .ref (bs + 59), .int (3), .int (3), .int (2), .int (2), .ref (bs + 60), .ref (bs + 61), .ref (bs + 62), .ref (bs + 63), .null, .null, .null, .null, .null, .null, .null, .null, .null, .null, .int 0, .int 0, .int 0, .int 0, .null, .null, .int 0]) := by rw [eC43, cset_ne (by decide)]; exact hO
  refine W.eq (g2 := F0 m 184 ls [.ref (bs + 64), .ref (bs + 44)]) rfl ?_
  refine W.widen (k := 20) (n := 3885) (by omega) (by omega) ?_
  refine p_F (K := RX10) (T := TX10) (N := 49) (ci := 10) (ty := .array .int) 44 32 tyX10 hx hb hts hown hin2 hK hP hz hS in_X10 tyX10_ok nmX10 rfl (by decide) hO (by decide) fl_175 rfl rfl (by decide +kernel) rfl rfl (Nat.le_of_ble_eq_true rfl) dX10_init_184 (fun H locs hP hz hS => ?_)
  obtain ⟨C44, eC44⟩ : ∃ z : CW, z = cset C43 44 (.inr (10, [.ref (bs + 45), .ref (bs + 46), .ref (bs + 47), .ref (bs + 48), .ref (bs + 49), .ref (bs + 50), .int 0, .int 0, .int 0, .int 0, .ref (bs + 51), .int 0, .int 0, .int 0, .int 0, .int 0, .ref (bs + 52), .ref (bs + 53), .ref (bs + 54), .ref (bs + 55), .ref (bs + 56), .ref (bs + 57), .ref (bs + 58), .ref (bs + 59), .int (3), .int (3), .int (2), .int (2), .ref (bs + 60), .ref (bs + 61), .ref (bs + 62), .ref (bs + 63), .ref (bs + 64), .null, .null, .null, .null, .null, .null, .null, .null, .null, .int 0, .int 0, .int 0, .int 0, .null, .null, .int 0])) := ⟨_, rfl⟩
  have hP : va_P D vwCl (wc bs 65 C44) H := by rw [eC44]; exact hP
  have hO : C44 44 = .inr (10, [.ref (bs + 45), .ref (bs + 46), .ref (bs + 47), .ref (bs + 48), .ref (bs + 49), .ref (bs + 50), .int 0, .int 0, .int 0, .int 0, .ref (bs + 51), .int 0, .int 0, .int 0, .int 0, .int 0, .ref (bs + 52), .ref (bs + 53), .ref (bs + 54), .ref (bs + 55), .ref (bs + 56), .ref (bs + 57), .ref (bs + 58), .ref (bs + 59), .int (3), .int (3), .int (2), .int (2), .ref (bs + 60), .ref (bs + 61), .ref (bs + 62), .ref (bs + 63), .ref (bs + 64), .null, .null, .null, .null, .null, .null, .null, .null, .null, .int 0, .int 0, .int 0, .int 0, .null, .null, .int 0]) := by rw [eC44]; exact cset_eq
  refine lv_aload_n hx hb dX10_init_187 rfl (lv_at hl 0 rfl) ?_
  refine lv_bipush (v := (36 : Int32)) hx hb dX10_init_188 (by decide) ?_
  refine n_A (t0 := 0) (ty := .int) (N' := 36) (a0 := (36, .inl (fun _ => 0))) hx hb hts hK hP hz hS ac_int rfl rfl (fun _ => rfl) (fun _ => rfl) (by decide) rfl (by decide) (Nat.le_of_ble_eq_true rfl) (Nat.le_of_ble_eq_true rfl) dX10_init_190 (fun H hP hz hS => ?_)
  obtain ⟨C45, eC45⟩ : ∃ z : CW, z = cset C44 65 (.inl (y.1, 36, .inl (fun _ => 0))) := ⟨_, rfl⟩
  have hP : va_P D vwCl (wc bs 66 C45) H := by rw [eC45]; exact hP
  have hO : C45 44 = .inr (10, [.ref (bs + 45), .ref (bs + 46), .ref (bs + 47), .ref (bs + 48), .ref (bs + 49), .ref (bs + 50), .int 0, .int 0, .int 0, .int 0, .ref (bs + 51), .int 0, .int 0, .int 0, .int 0, .int 0, .ref (bs + 52), .ref (bs + 53), .ref (bs + 54), .ref (bs + 55), .ref (bs + 56), .ref (bs + 57), .ref (bs + 58), .ref (bs + 59), .int (3), .int (3), .int (2), .int (2), .ref (bs + 60), .ref (bs + 61), .ref (bs + 62), .ref (bs + 63), .ref (bs + 64), .null, .null, .null, .null, .null, .null, .null, .null, .null, .int 0, .int 0, .int 0, .int 0, .null, .null, .int 0]) := by rw [eC45, cset_ne (by decide)]; exact hO
  refine W.eq (g2 := F0 m 192 ls [.ref (bs + 65), .ref (bs + 44)]) rfl ?_
  refine W.widen (k := 21) (n := 3921) (by omega) (by omega) ?_
  refine p_F (K := RX10) (T := TX10) (N := 49) (ci := 10) (ty := .array .int) 44 33 tyX10 hx hb hts hown hin2 hK hP hz hS in_X10 tyX10_ok nmX10 rfl (by decide) hO (by decide) fl_176 rfl rfl (by decide +kernel) rfl rfl (Nat.le_of_ble_eq_true rfl) dX10_init_192 (fun H locs hP hz hS => ?_)
  obtain ⟨C46, eC46⟩ : ∃ z : CW, z = cset C45 44 (.inr (10, [.ref (bs + 45), .ref (bs + 46), .ref (bs + 47), .ref (bs + 48), .ref (bs + 49), .ref (bs + 50), .int 0, .int 0, .int 0, .int 0, .ref (bs + 51), .int 0, .int 0, .int 0, .int 0, .int 0, .ref (bs + 52), .ref (bs + 53), .ref (bs + 54), .ref (bs + 55), .ref (bs + 56), .ref (bs + 57), .ref (bs + 58), .ref (bs + 59), .int (3), .int (3), .int (2), .int (2), .ref (bs + 60), .ref (bs + 61), .ref (bs + 62), .ref (bs + 63), .ref (bs + 64), .ref (bs + 65), .null, .null, .null, .null, .null, .null, .null, .null, .int 0, .int 0, .int 0, .int 0, .null, .null, .int 0])) := ⟨_, rfl⟩
  have hP : va_P D vwCl (wc bs 66 C46) H := by rw [eC46]; exact hP
  have hO : C46 44 = .inr (10, [.ref (bs + 45), .ref (bs + 46), .ref (bs + 47), .ref (bs + 48), .ref (bs + 49), .ref (bs + 50), .int 0, .int 0, .int 0, .int 0, .ref (bs + 51), .int 0, .int 0, .int 0, .int 0, .int 0, .ref (bs + 52), .ref (bs + 53), .ref (bs + 54), .ref (bs + 55), .ref (bs + 56), .ref (bs + 57), .ref (bs + 58), .ref (bs + 59), .int (3), .int (3), .int (2), .int (2), .ref (bs + 60), .ref (bs + 61), .ref (bs + 62), .ref (bs + 63), .ref (bs + 64), .ref (bs + 65), .null, .null, .null, .null, .null, .null, .null, .null, .int 0, .int 0, .int 0, .int 0, .null, .null, .int 0]) := by rw [eC46]; exact cset_eq
  refine lv_aload_n hx hb dX10_init_195 rfl (lv_at hl 0 rfl) ?_
  refine lv_bipush (v := (36 : Int32)) hx hb dX10_init_196 (by decide) ?_
  refine n_A (t0 := 2) (ty := .boolean) (N' := 36) (a0 := (36, .inl (fun _ => 0))) hx hb hts hK hP hz hS ac_boolean rfl rfl (fun _ => rfl) (fun _ => rfl) (by decide) rfl (by decide) (Nat.le_of_ble_eq_true rfl) (Nat.le_of_ble_eq_true rfl) dX10_init_198 (fun H hP hz hS => ?_)
  obtain ⟨C47, eC47⟩ : ∃ z : CW, z = cset C46 66 (.inl (y.2.2.1, 36, .inl (fun _ => 0))) := ⟨_, rfl⟩
  have hP : va_P D vwCl (wc bs 67 C47) H := by rw [eC47]; exact hP
  have hO : C47 44 = .inr (10, [.ref (bs + 45), .ref (bs + 46), .ref (bs + 47), .ref (bs + 48), .ref (bs + 49), .ref (bs + 50), .int 0, .int 0, .int 0, .int 0, .ref (bs + 51), .int 0, .int 0, .int 0, .int 0, .int 0, .ref (bs + 52), .ref (bs + 53), .ref (bs + 54), .ref (bs + 55), .ref (bs + 56), .ref (bs + 57), .ref (bs + 58), .ref (bs + 59), .int (3), .int (3), .int (2), .int (2), .ref (bs + 60), .ref (bs + 61), .ref (bs + 62), .ref (bs + 63), .ref (bs + 64), .ref (bs + 65), .null, .null, .null, .null, .null, .null, .null, .null, .int 0, .int 0, .int 0, .int 0, .null, .null, .int 0]) := by rw [eC47, cset_ne (by decide)]; exact hO
  refine W.eq (g2 := F0 m 200 ls [.ref (bs + 66), .ref (bs + 44)]) rfl ?_
  refine W.widen (k := 22) (n := 3957) (by omega) (by omega) ?_
  refine p_F (K := RX10) (T := TX10) (N := 49) (ci := 10) (ty := .array .boolean) 44 34 tyX10 hx hb hts hown hin2 hK hP hz hS in_X10 tyX10_ok nmX10 rfl (by decide) hO (by decide) fl_177 rfl rfl (by decide +kernel) rfl rfl (Nat.le_of_ble_eq_true rfl) dX10_init_200 (fun H locs hP hz hS => ?_)
  obtain ⟨C48, eC48⟩ : ∃ z : CW, z = cset C47 44 (.inr (10, [.ref (bs + 45), .ref (bs + 46), .ref (bs + 47), .ref (bs + 48), .ref (bs + 49), .ref (bs + 50), .int 0, .int 0, .int 0, .int 0, .ref (bs + 51), .int 0, .int 0, .int 0, .int 0, .int 0, .ref (bs + 52), .ref (bs + 53), .ref (bs + 54), .ref (bs + 55), .ref (bs + 56), .ref (bs + 57), .ref (bs + 58), .ref (bs + 59), .int (3), .int (3), .int (2), .int (2), .ref (bs + 60), .ref (bs + 61), .ref (bs + 62), .ref (bs + 63), .ref (bs + 64), .ref (bs + 65), .ref (bs + 66), .null, .null, .null, .null, .null, .null, .null, .int 0, .int 0, .int 0, .int 0, .null, .null, .int 0])) := ⟨_, rfl⟩
  have hP : va_P D vwCl (wc bs 67 C48) H := by rw [eC48]; exact hP
  have hO : C48 44 = .inr (10, [.ref (bs + 45), .ref (bs + 46), .ref (bs + 47), .ref (bs + 48), .ref (bs + 49), .ref (bs + 50), .int 0, .int 0, .int 0, .int 0, .ref (bs + 51), .int 0, .int 0, .int 0, .int 0, .int 0, .ref (bs + 52), .ref (bs + 53), .ref (bs + 54), .ref (bs + 55), .ref (bs + 56), .ref (bs + 57), .ref (bs + 58), .ref (bs + 59), .int (3), .int (3), .int (2), .int (2), .ref (bs + 60), .ref (bs + 61), .ref (bs + 62), .ref (bs + 63), .ref (bs + 64), .ref (bs + 65), .ref (bs + 66), .null, .null, .null, .null, .null, .null, .null, .int 0, .int 0, .int 0, .int 0, .null, .null, .int 0]) := by rw [eC48]; exact cset_eq
  refine lv_aload_n hx hb dX10_init_203 rfl (lv_at hl 0 rfl) ?_
  refine lv_bipush (v := (60 : Int32)) hx hb dX10_init_204 (by decide) ?_
  refine n_A (t0 := 0) (ty := .int) (N' := 60) (a0 := (60, .inl (fun _ => 0))) hx hb hts hK hP hz hS ac_int rfl rfl (fun _ => rfl) (fun _ => rfl) (by decide) rfl (by decide) (Nat.le_of_ble_eq_true rfl) (Nat.le_of_ble_eq_true rfl) dX10_init_206 (fun H hP hz hS => ?_)
  obtain ⟨C49, eC49⟩ : ∃ z : CW, z = cset C48 67 (.inl (y.1, 60, .inl (fun _ => 0))) := ⟨_, rfl⟩
  have hP : va_P D vwCl (wc bs 68 C49) H := by rw [eC49]; exact hP
  have hO : C49 44 = .inr (10, [.ref (bs + 45), .ref (bs + 46), .ref (bs + 47), .ref (bs + 48), .ref (bs + 49), .ref (bs + 50), .int 0, .int 0, .int 0, .int 0, .ref (bs + 51), .int 0, .int 0, .int 0, .int 0, .int 0, .ref (bs + 52), .ref (bs + 53), .ref (bs + 54), .ref (bs + 55), .ref (bs + 56), .ref (bs + 57), .ref (bs + 58), .ref (bs + 59), .int (3), .int (3), .int (2), .int (2), .ref (bs + 60), .ref (bs + 61), .ref (bs + 62), .ref (bs + 63), .ref (bs + 64), .ref (bs + 65), .ref (bs + 66), .null, .null, .null, .null, .null, .null, .null, .int 0, .int 0, .int 0, .int 0, .null, .null, .int 0]) := by rw [eC49, cset_ne (by decide)]; exact hO
  refine W.eq (g2 := F0 m 208 ls [.ref (bs + 67), .ref (bs + 44)]) rfl ?_
  refine W.widen (k := 23) (n := 4017) (by omega) (by omega) ?_
  refine p_F (K := RX10) (T := TX10) (N := 49) (ci := 10) (ty := .array .int) 44 35 tyX10 hx hb hts hown hin2 hK hP hz hS in_X10 tyX10_ok nmX10 rfl (by decide) hO (by decide) fl_179 rfl rfl (by decide +kernel) rfl rfl (Nat.le_of_ble_eq_true rfl) dX10_init_208 (fun H locs hP hz hS => ?_)
  obtain ⟨C50, eC50⟩ : ∃ z : CW, z = cset C49 44 (.inr (10, [.ref (bs + 45), .ref (bs + 46), .ref (bs + 47), .ref (bs + 48), .ref (bs + 49), .ref (bs + 50), .int 0, .int 0, .int 0, .int 0, .ref (bs + 51), .int 0, .int 0, .int 0, .int 0, .int 0, .ref (bs + 52), .ref (bs + 53), .ref (bs + 54), .ref (bs + 55), .ref (bs + 56), .ref (bs + 57), .ref (bs + 58), .ref (bs + 59), .int (3), .int (3), .int (2), .int (2), .ref (bs + 60), .ref (bs + 61), .ref (bs + 62), .ref (bs + 63), .ref (bs + 64), .ref (bs + 65), .ref (bs + 66), .ref (bs + 67), .null, .null, .null, .null, .null, .null, .int 0, .int 0, .int 0, .int 0, .null, .null, .int 0])) := ⟨_, rfl⟩
  have hP : va_P D vwCl (wc bs 68 C50) H := by rw [eC50]; exact hP
  have hO : C50 44 = .inr (10, [.ref (bs + 45), .ref (bs + 46), .ref (bs + 47), .ref (bs + 48), .ref (bs + 49), .ref (bs + 50), .int 0, .int 0, .int 0, .int 0, .ref (bs + 51), .int 0, .int 0, .int 0, .int 0, .int 0, .ref (bs + 52), .ref (bs + 53), .ref (bs + 54), .ref (bs + 55), .ref (bs + 56), .ref (bs + 57), .ref (bs + 58), .ref (bs + 59), .int (3), .int (3), .int (2), .int (2), .ref (bs + 60), .ref (bs + 61), .ref (bs + 62), .ref (bs + 63), .ref (bs + 64), .ref (bs + 65), .ref (bs + 66), .ref (bs + 67), .null, .null, .null, .null, .null, .null, .int 0, .int 0, .int 0, .int 0, .null, .null, .int 0]) := by rw [eC50]; exact cset_eq
  refine lv_aload_n hx hb dX10_init_211 rfl (lv_at hl 0 rfl) ?_
  refine lv_sipush (v := (1440 : Int32)) hx hb dX10_init_212 (by decide) ?_
  refine n_A (t0 := 0) (ty := .int) (N' := 1440) (a0 := (1440, .inl (fun _ => 0))) hx hb hts hK hP hz hS ac_int rfl rfl (fun _ => rfl) (fun _ => rfl) (by decide) rfl (by decide) (Nat.le_of_ble_eq_true rfl) (Nat.le_of_ble_eq_true rfl) dX10_init_215 (fun H hP hz hS => ?_)
  obtain ⟨C51, eC51⟩ : ∃ z : CW, z = cset C50 68 (.inl (y.1, 1440, .inl (fun _ => 0))) := ⟨_, rfl⟩
  have hP : va_P D vwCl (wc bs 69 C51) H := by rw [eC51]; exact hP
  have hO : C51 44 = .inr (10, [.ref (bs + 45), .ref (bs + 46), .ref (bs + 47), .ref (bs + 48), .ref (bs + 49), .ref (bs + 50), .int 0, .int 0, .int 0, .int 0, .ref (bs + 51), .int 0, .int 0, .int 0, .int 0, .int 0, .ref (bs + 52), .ref (bs + 53), .ref (bs + 54), .ref (bs + 55), .ref (bs + 56), .ref (bs + 57), .ref (bs + 58), .ref (bs + 59), .int (3), .int (3), .int (2), .int (2), .ref (bs + 60), .ref (bs + 61), .ref (bs + 62), .ref (bs + 63), .ref (bs + 64), .ref (bs + 65), .ref (bs + 66), .ref (bs + 67), .null, .null, .null, .null, .null, .null, .int 0, .int 0, .int 0, .int 0, .null, .null, .int 0]) := by rw [eC51, cset_ne (by decide)]; exact hO
  refine W.eq (g2 := F0 m 217 ls [.ref (bs + 68), .ref (bs + 44)]) rfl ?_
  refine W.widen (k := 24) (n := 5457) (by omega) (by omega) ?_
  refine p_F (K := RX10) (T := TX10) (N := 49) (ci := 10) (ty := .array .int) 44 36 tyX10 hx hb hts hown hin2 hK hP hz hS in_X10 tyX10_ok nmX10 rfl (by decide) hO (by decide) fl_180 rfl rfl (by decide +kernel) rfl rfl (Nat.le_of_ble_eq_true rfl) dX10_init_217 (fun H locs hP hz hS => ?_)
  obtain ⟨C52, eC52⟩ : ∃ z : CW, z = cset C51 44 (.inr (10, [.ref (bs + 45), .ref (bs + 46), .ref (bs + 47), .ref (bs + 48), .ref (bs + 49), .ref (bs + 50), .int 0, .int 0, .int 0, .int 0, .ref (bs + 51), .int 0, .int 0, .int 0, .int 0, .int 0, .ref (bs + 52), .ref (bs + 53), .ref (bs + 54), .ref (bs + 55), .ref (bs + 56), .ref (bs + 57), .ref (bs + 58), .ref (bs + 59), .int (3), .int (3), .int (2), .int (2), .ref (bs + 60), .ref (bs + 61), .ref (bs + 62), .ref (bs + 63), .ref (bs + 64), .ref (bs + 65), .ref (bs + 66), .ref (bs + 67), .ref (bs + 68), .null, .null, .null, .null, .null, .int 0, .int 0, .int 0, .int 0, .null, .null, .int 0])) := ⟨_, rfl⟩
  have hP : va_P D vwCl (wc bs 69 C52) H := by rw [eC52]; exact hP
  have hO : C52 44 = .inr (10, [.ref (bs + 45), .ref (bs + 46), .ref (bs + 47), .ref (bs + 48), .ref (bs + 49), .ref (bs + 50), .int 0, .int 0, .int 0, .int 0, .ref (bs + 51), .int 0, .int 0, .int 0, .int 0, .int 0, .ref (bs + 52), .ref (bs + 53), .ref (bs + 54), .ref (bs + 55), .ref (bs + 56), .ref (bs + 57), .ref (bs + 58), .ref (bs + 59), .int (3), .int (3), .int (2), .int (2), .ref (bs + 60), .ref (bs + 61), .ref (bs + 62), .ref (bs + 63), .ref (bs + 64), .ref (bs + 65), .ref (bs + 66), .ref (bs + 67), .ref (bs + 68), .null, .null, .null, .null, .null, .int 0, .int 0, .int 0, .int 0, .null, .null, .int 0]) := by rw [eC52]; exact cset_eq
  refine lv_aload_n hx hb dX10_init_220 rfl (lv_at hl 0 rfl) ?_
  refine lv_bipush (v := (36 : Int32)) hx hb dX10_init_221 (by decide) ?_
  refine n_A (t0 := 0) (ty := .int) (N' := 36) (a0 := (36, .inl (fun _ => 0))) hx hb hts hK hP hz hS ac_int rfl rfl (fun _ => rfl) (fun _ => rfl) (by decide) rfl (by decide) (Nat.le_of_ble_eq_true rfl) (Nat.le_of_ble_eq_true rfl) dX10_init_223 (fun H hP hz hS => ?_)
  obtain ⟨C53, eC53⟩ : ∃ z : CW, z = cset C52 69 (.inl (y.1, 36, .inl (fun _ => 0))) := ⟨_, rfl⟩
  have hP : va_P D vwCl (wc bs 70 C53) H := by rw [eC53]; exact hP
  have hO : C53 44 = .inr (10, [.ref (bs + 45), .ref (bs + 46), .ref (bs + 47), .ref (bs + 48), .ref (bs + 49), .ref (bs + 50), .int 0, .int 0, .int 0, .int 0, .ref (bs + 51), .int 0, .int 0, .int 0, .int 0, .int 0, .ref (bs + 52), .ref (bs + 53), .ref (bs + 54), .ref (bs + 55), .ref (bs + 56), .ref (bs + 57), .ref (bs + 58), .ref (bs + 59), .int (3), .int (3), .int (2), .int (2), .ref (bs + 60), .ref (bs + 61), .ref (bs + 62), .ref (bs + 63), .ref (bs + 64), .ref (bs + 65), .ref (bs + 66), .ref (bs + 67), .ref (bs + 68), .null, .null, .null, .null, .null, .int 0, .int 0, .int 0, .int 0, .null, .null, .int 0]) := by rw [eC53, cset_ne (by decide)]; exact hO
  refine W.eq (g2 := F0 m 225 ls [.ref (bs + 69), .ref (bs + 44)]) rfl ?_
  refine W.widen (k := 25) (n := 5493) (by omega) (by omega) ?_
  refine p_F (K := RX10) (T := TX10) (N := 49) (ci := 10) (ty := .array .int) 44 37 tyX10 hx hb hts hown hin2 hK hP hz hS in_X10 tyX10_ok nmX10 rfl (by decide) hO (by decide) fl_181 rfl rfl (by decide +kernel) rfl rfl (Nat.le_of_ble_eq_true rfl) dX10_init_225 (fun H locs hP hz hS => ?_)
  obtain ⟨C54, eC54⟩ : ∃ z : CW, z = cset C53 44 (.inr (10, [.ref (bs + 45), .ref (bs + 46), .ref (bs + 47), .ref (bs + 48), .ref (bs + 49), .ref (bs + 50), .int 0, .int 0, .int 0, .int 0, .ref (bs + 51), .int 0, .int 0, .int 0, .int 0, .int 0, .ref (bs + 52), .ref (bs + 53), .ref (bs + 54), .ref (bs + 55), .ref (bs + 56), .ref (bs + 57), .ref (bs + 58), .ref (bs + 59), .int (3), .int (3), .int (2), .int (2), .ref (bs + 60), .ref (bs + 61), .ref (bs + 62), .ref (bs + 63), .ref (bs + 64), .ref (bs + 65), .ref (bs + 66), .ref (bs + 67), .ref (bs + 68), .ref (bs + 69), .null, .null, .null, .null, .int 0, .int 0, .int 0, .int 0, .null, .null, .int 0])) := ⟨_, rfl⟩
  have hP : va_P D vwCl (wc bs 70 C54) H := by rw [eC54]; exact hP
  have hO : C54 44 = .inr (10, [.ref (bs + 45), .ref (bs + 46), .ref (bs + 47), .ref (bs + 48), .ref (bs + 49), .ref (bs + 50), .int 0, .int 0, .int 0, .int 0, .ref (bs + 51), .int 0, .int 0, .int 0, .int 0, .int 0, .ref (bs + 52), .ref (bs + 53), .ref (bs + 54), .ref (bs + 55), .ref (bs + 56), .ref (bs + 57), .ref (bs + 58), .ref (bs + 59), .int (3), .int (3), .int (2), .int (2), .ref (bs + 60), .ref (bs + 61), .ref (bs + 62), .ref (bs + 63), .ref (bs + 64), .ref (bs + 65), .ref (bs + 66), .ref (bs + 67), .ref (bs + 68), .ref (bs + 69), .null, .null, .null, .null, .int 0, .int 0, .int 0, .int 0, .null, .null, .int 0]) := by rw [eC54]; exact cset_eq
  refine lv_aload_n hx hb dX10_init_228 rfl (lv_at hl 0 rfl) ?_
  refine lv_bipush (v := (32 : Int32)) hx hb dX10_init_229 (by decide) ?_
  refine n_A (t0 := 0) (ty := .int) (N' := 32) (a0 := (32, .inl (fun _ => 0))) hx hb hts hK hP hz hS ac_int rfl rfl (fun _ => rfl) (fun _ => rfl) (by decide) rfl (by decide) (Nat.le_of_ble_eq_true rfl) (Nat.le_of_ble_eq_true rfl) dX10_init_231 (fun H hP hz hS => ?_)
  obtain ⟨C55, eC55⟩ : ∃ z : CW, z = cset C54 70 (.inl (y.1, 32, .inl (fun _ => 0))) := ⟨_, rfl⟩
  have hP : va_P D vwCl (wc bs 71 C55) H := by rw [eC55]; exact hP
  have hO : C55 44 = .inr (10, [.ref (bs + 45), .ref (bs + 46), .ref (bs + 47), .ref (bs + 48), .ref (bs + 49), .ref (bs + 50), .int 0, .int 0, .int 0, .int 0, .ref (bs + 51), .int 0, .int 0, .int 0, .int 0, .int 0, .ref (bs + 52), .ref (bs + 53), .ref (bs + 54), .ref (bs + 55), .ref (bs + 56), .ref (bs + 57), .ref (bs + 58), .ref (bs + 59), .int (3), .int (3), .int (2), .int (2), .ref (bs + 60), .ref (bs + 61), .ref (bs + 62), .ref (bs + 63), .ref (bs + 64), .ref (bs + 65), .ref (bs + 66), .ref (bs + 67), .ref (bs + 68), .ref (bs + 69), .null, .null, .null, .null, .int 0, .int 0, .int 0, .int 0, .null, .null, .int 0]) := by rw [eC55, cset_ne (by decide)]; exact hO
  refine W.eq (g2 := F0 m 233 ls [.ref (bs + 70), .ref (bs + 44)]) rfl ?_
  refine W.widen (k := 26) (n := 5525) (by omega) (by omega) ?_
  refine p_F (K := RX10) (T := TX10) (N := 49) (ci := 10) (ty := .array .int) 44 38 tyX10 hx hb hts hown hin2 hK hP hz hS in_X10 tyX10_ok nmX10 rfl (by decide) hO (by decide) fl_182 rfl rfl (by decide +kernel) rfl rfl (Nat.le_of_ble_eq_true rfl) dX10_init_233 (fun H locs hP hz hS => ?_)
  obtain ⟨C56, eC56⟩ : ∃ z : CW, z = cset C55 44 (.inr (10, [.ref (bs + 45), .ref (bs + 46), .ref (bs + 47), .ref (bs + 48), .ref (bs + 49), .ref (bs + 50), .int 0, .int 0, .int 0, .int 0, .ref (bs + 51), .int 0, .int 0, .int 0, .int 0, .int 0, .ref (bs + 52), .ref (bs + 53), .ref (bs + 54), .ref (bs + 55), .ref (bs + 56), .ref (bs + 57), .ref (bs + 58), .ref (bs + 59), .int (3), .int (3), .int (2), .int (2), .ref (bs + 60), .ref (bs + 61), .ref (bs + 62), .ref (bs + 63), .ref (bs + 64), .ref (bs + 65), .ref (bs + 66), .ref (bs + 67), .ref (bs + 68), .ref (bs + 69), .ref (bs + 70), .null, .null, .null, .int 0, .int 0, .int 0, .int 0, .null, .null, .int 0])) := ⟨_, rfl⟩
  have hP : va_P D vwCl (wc bs 71 C56) H := by rw [eC56]; exact hP
  have hO : C56 44 = .inr (10, [.ref (bs + 45), .ref (bs + 46), .ref (bs + 47), .ref (bs + 48), .ref (bs + 49), .ref (bs + 50), .int 0, .int 0, .int 0, .int 0, .ref (bs + 51), .int 0, .int 0, .int 0, .int 0, .int 0, .ref (bs + 52), .ref (bs + 53), .ref (bs + 54), .ref (bs + 55), .ref (bs + 56), .ref (bs + 57), .ref (bs + 58), .ref (bs + 59), .int (3), .int (3), .int (2), .int (2), .ref (bs + 60), .ref (bs + 61), .ref (bs + 62), .ref (bs + 63), .ref (bs + 64), .ref (bs + 65), .ref (bs + 66), .ref (bs + 67), .ref (bs + 68), .ref (bs + 69), .ref (bs + 70), .null, .null, .null, .int 0, .int 0, .int 0, .int 0, .null, .null, .int 0]) := by rw [eC56]; exact cset_eq
  refine lv_aload_n hx hb dX10_init_236 rfl (lv_at hl 0 rfl) ?_
  refine lv_bipush (v := (32 : Int32)) hx hb dX10_init_237 (by decide) ?_
  refine n_A (t0 := 2) (ty := .boolean) (N' := 32) (a0 := (32, .inl (fun _ => 0))) hx hb hts hK hP hz hS ac_boolean rfl rfl (fun _ => rfl) (fun _ => rfl) (by decide) rfl (by decide) (Nat.le_of_ble_eq_true rfl) (Nat.le_of_ble_eq_true rfl) dX10_init_239 (fun H hP hz hS => ?_)
  obtain ⟨C57, eC57⟩ : ∃ z : CW, z = cset C56 71 (.inl (y.2.2.1, 32, .inl (fun _ => 0))) := ⟨_, rfl⟩
  have hP : va_P D vwCl (wc bs 72 C57) H := by rw [eC57]; exact hP
  have hO : C57 44 = .inr (10, [.ref (bs + 45), .ref (bs + 46), .ref (bs + 47), .ref (bs + 48), .ref (bs + 49), .ref (bs + 50), .int 0, .int 0, .int 0, .int 0, .ref (bs + 51), .int 0, .int 0, .int 0, .int 0, .int 0, .ref (bs + 52), .ref (bs + 53), .ref (bs + 54), .ref (bs + 55), .ref (bs + 56), .ref (bs + 57), .ref (bs + 58), .ref (bs + 59), .int (3), .int (3), .int (2), .int (2), .ref (bs + 60), .ref (bs + 61), .ref (bs + 62), .ref (bs + 63), .ref (bs + 64), .ref (bs + 65), .ref (bs + 66), .ref (bs + 67), .ref (bs + 68), .ref (bs + 69), .ref (bs + 70), .null, .null, .null, .int 0, .int 0, .int 0, .int 0, .null, .null, .int 0]) := by rw [eC57, cset_ne (by decide)]; exact hO
  refine W.eq (g2 := F0 m 241 ls [.ref (bs + 71), .ref (bs + 44)]) rfl ?_
  refine W.widen (k := 27) (n := 5557) (by omega) (by omega) ?_
  refine p_F (K := RX10) (T := TX10) (N := 49) (ci := 10) (ty := .array .boolean) 44 39 tyX10 hx hb hts hown hin2 hK hP hz hS in_X10 tyX10_ok nmX10 rfl (by decide) hO (by decide) fl_143 rfl rfl (by decide +kernel) rfl rfl (Nat.le_of_ble_eq_true rfl) dX10_init_241 (fun H locs hP hz hS => ?_)
  obtain ⟨C58, eC58⟩ : ∃ z : CW, z = cset C57 44 (.inr (10, [.ref (bs + 45), .ref (bs + 46), .ref (bs + 47), .ref (bs + 48), .ref (bs + 49), .ref (bs + 50), .int 0, .int 0, .int 0, .int 0, .ref (bs + 51), .int 0, .int 0, .int 0, .int 0, .int 0, .ref (bs + 52), .ref (bs + 53), .ref (bs + 54), .ref (bs + 55), .ref (bs + 56), .ref (bs + 57), .ref (bs + 58), .ref (bs + 59), .int (3), .int (3), .int (2), .int (2), .ref (bs + 60), .ref (bs + 61), .ref (bs + 62), .ref (bs + 63), .ref (bs + 64), .ref (bs + 65), .ref (bs + 66), .ref (bs + 67), .ref (bs + 68), .ref (bs + 69), .ref (bs + 70), .ref (bs + 71), .null, .null, .int 0, .int 0, .int 0, .int 0, .null, .null, .int 0])) := ⟨_, rfl⟩
  have hP : va_P D vwCl (wc bs 72 C58) H := by rw [eC58]; exact hP
  have hO : C58 44 = .inr (10, [.ref (bs + 45), .ref (bs + 46), .ref (bs + 47), .ref (bs + 48), .ref (bs + 49), .ref (bs + 50), .int 0, .int 0, .int 0, .int 0, .ref (bs + 51), .int 0, .int 0, .int 0, .int 0, .int 0, .ref (bs + 52), .ref (bs + 53), .ref (bs + 54), .ref (bs + 55), .ref (bs + 56), .ref (bs + 57), .ref (bs + 58), .ref (bs + 59), .int (3), .int (3), .int (2), .int (2), .ref (bs + 60), .ref (bs + 61), .ref (bs + 62), .ref (bs + 63), .ref (bs + 64), .ref (bs + 65), .ref (bs + 66), .ref (bs + 67), .ref (bs + 68), .ref (bs + 69), .ref (bs + 70), .ref (bs + 71), .null, .null, .int 0, .int 0, .int 0, .int 0, .null, .null, .int 0]) := by rw [eC58]; exact cset_eq
  refine lv_aload_n hx hb dX10_init_244 rfl (lv_at hl 0 rfl) ?_
  refine lv_bipush (v := (32 : Int32)) hx hb dX10_init_245 (by decide) ?_
  refine n_A (t0 := 2) (ty := .boolean) (N' := 32) (a0 := (32, .inl (fun _ => 0))) hx hb hts hK hP hz hS ac_boolean rfl rfl (fun _ => rfl) (fun _ => rfl) (by decide) rfl (by decide) (Nat.le_of_ble_eq_true rfl) (Nat.le_of_ble_eq_true rfl) dX10_init_247 (fun H hP hz hS => ?_)
  obtain ⟨C59, eC59⟩ : ∃ z : CW, z = cset C58 72 (.inl (y.2.2.1, 32, .inl (fun _ => 0))) := ⟨_, rfl⟩
  have hP : va_P D vwCl (wc bs 73 C59) H := by rw [eC59]; exact hP
  have hO : C59 44 = .inr (10, [.ref (bs + 45), .ref (bs + 46), .ref (bs + 47), .ref (bs + 48), .ref (bs + 49), .ref (bs + 50), .int 0, .int 0, .int 0, .int 0, .ref (bs + 51), .int 0, .int 0, .int 0, .int 0, .int 0, .ref (bs + 52), .ref (bs + 53), .ref (bs + 54), .ref (bs + 55), .ref (bs + 56), .ref (bs + 57), .ref (bs + 58), .ref (bs + 59), .int (3), .int (3), .int (2), .int (2), .ref (bs + 60), .ref (bs + 61), .ref (bs + 62), .ref (bs + 63), .ref (bs + 64), .ref (bs + 65), .ref (bs + 66), .ref (bs + 67), .ref (bs + 68), .ref (bs + 69), .ref (bs + 70), .ref (bs + 71), .null, .null, .int 0, .int 0, .int 0, .int 0, .null, .null, .int 0]) := by rw [eC59, cset_ne (by decide)]; exact hO
  refine W.eq (g2 := F0 m 249 ls [.ref (bs + 72), .ref (bs + 44)]) rfl ?_
  refine W.widen (k := 28) (n := 5589) (by omega) (by omega) ?_
  refine p_F (K := RX10) (T := TX10) (N := 49) (ci := 10) (ty := .array .boolean) 44 40 tyX10 hx hb hts hown hin2 hK hP hz hS in_X10 tyX10_ok nmX10 rfl (by decide) hO (by decide) fl_142 rfl rfl (by decide +kernel) rfl rfl (Nat.le_of_ble_eq_true rfl) dX10_init_249 (fun H locs hP hz hS => ?_)
  obtain ⟨C60, eC60⟩ : ∃ z : CW, z = cset C59 44 (.inr (10, [.ref (bs + 45), .ref (bs + 46), .ref (bs + 47), .ref (bs + 48), .ref (bs + 49), .ref (bs + 50), .int 0, .int 0, .int 0, .int 0, .ref (bs + 51), .int 0, .int 0, .int 0, .int 0, .int 0, .ref (bs + 52), .ref (bs + 53), .ref (bs + 54), .ref (bs + 55), .ref (bs + 56), .ref (bs + 57), .ref (bs + 58), .ref (bs + 59), .int (3), .int (3), .int (2), .int (2), .ref (bs + 60), .ref (bs + 61), .ref (bs + 62), .ref (bs + 63), .ref (bs + 64), .ref (bs + 65), .ref (bs + 66), .ref (bs + 67), .ref (bs + 68), .ref (bs + 69), .ref (bs + 70), .ref (bs + 71), .ref (bs + 72), .null, .int 0, .int 0, .int 0, .int 0, .null, .null, .int 0])) := ⟨_, rfl⟩
  have hP : va_P D vwCl (wc bs 73 C60) H := by rw [eC60]; exact hP
  have hO : C60 44 = .inr (10, [.ref (bs + 45), .ref (bs + 46), .ref (bs + 47), .ref (bs + 48), .ref (bs + 49), .ref (bs + 50), .int 0, .int 0, .int 0, .int 0, .ref (bs + 51), .int 0, .int 0, .int 0, .int 0, .int 0, .ref (bs + 52), .ref (bs + 53), .ref (bs + 54), .ref (bs + 55), .ref (bs + 56), .ref (bs + 57), .ref (bs + 58), .ref (bs + 59), .int (3), .int (3), .int (2), .int (2), .ref (bs + 60), .ref (bs + 61), .ref (bs + 62), .ref (bs + 63), .ref (bs + 64), .ref (bs + 65), .ref (bs + 66), .ref (bs + 67), .ref (bs + 68), .ref (bs + 69), .ref (bs + 70), .ref (bs + 71), .ref (bs + 72), .null, .int 0, .int 0, .int 0, .int 0, .null, .null, .int 0]) := by rw [eC60]; exact cset_eq
  refine lv_aload_n hx hb dX10_init_252 rfl (lv_at hl 0 rfl) ?_
  refine lv_bipush (v := (32 : Int32)) hx hb dX10_init_253 (by decide) ?_
  refine n_A (t0 := 2) (ty := .boolean) (N' := 32) (a0 := (32, .inl (fun _ => 0))) hx hb hts hK hP hz hS ac_boolean rfl rfl (fun _ => rfl) (fun _ => rfl) (by decide) rfl (by decide) (Nat.le_of_ble_eq_true rfl) (Nat.le_of_ble_eq_true rfl) dX10_init_255 (fun H hP hz hS => ?_)
  obtain ⟨C61, eC61⟩ : ∃ z : CW, z = cset C60 73 (.inl (y.2.2.1, 32, .inl (fun _ => 0))) := ⟨_, rfl⟩
  have hP : va_P D vwCl (wc bs 74 C61) H := by rw [eC61]; exact hP
  have hO : C61 44 = .inr (10, [.ref (bs + 45), .ref (bs + 46), .ref (bs + 47), .ref (bs + 48), .ref (bs + 49), .ref (bs + 50), .int 0, .int 0, .int 0, .int 0, .ref (bs + 51), .int 0, .int 0, .int 0, .int 0, .int 0, .ref (bs + 52), .ref (bs + 53), .ref (bs + 54), .ref (bs + 55), .ref (bs + 56), .ref (bs + 57), .ref (bs + 58), .ref (bs + 59), .int (3), .int (3), .int (2), .int (2), .ref (bs + 60), .ref (bs + 61), .ref (bs + 62), .ref (bs + 63), .ref (bs + 64), .ref (bs + 65), .ref (bs + 66), .ref (bs + 67), .ref (bs + 68), .ref (bs + 69), .ref (bs + 70), .ref (bs + 71), .ref (bs + 72), .null, .int 0, .int 0, .int 0, .int 0, .null, .null, .int 0]) := by rw [eC61, cset_ne (by decide)]; exact hO
  refine W.eq (g2 := F0 m 257 ls [.ref (bs + 73), .ref (bs + 44)]) rfl ?_
  refine W.widen (k := 29) (n := 5621) (by omega) (by omega) ?_
  refine p_F (K := RX10) (T := TX10) (N := 49) (ci := 10) (ty := .array .boolean) 44 41 tyX10 hx hb hts hown hin2 hK hP hz hS in_X10 tyX10_ok nmX10 rfl (by decide) hO (by decide) fl_183 rfl rfl (by decide +kernel) rfl rfl (Nat.le_of_ble_eq_true rfl) dX10_init_257 (fun H locs hP hz hS => ?_)
  obtain ⟨C62, eC62⟩ : ∃ z : CW, z = cset C61 44 (.inr (10, [.ref (bs + 45), .ref (bs + 46), .ref (bs + 47), .ref (bs + 48), .ref (bs + 49), .ref (bs + 50), .int 0, .int 0, .int 0, .int 0, .ref (bs + 51), .int 0, .int 0, .int 0, .int 0, .int 0, .ref (bs + 52), .ref (bs + 53), .ref (bs + 54), .ref (bs + 55), .ref (bs + 56), .ref (bs + 57), .ref (bs + 58), .ref (bs + 59), .int (3), .int (3), .int (2), .int (2), .ref (bs + 60), .ref (bs + 61), .ref (bs + 62), .ref (bs + 63), .ref (bs + 64), .ref (bs + 65), .ref (bs + 66), .ref (bs + 67), .ref (bs + 68), .ref (bs + 69), .ref (bs + 70), .ref (bs + 71), .ref (bs + 72), .ref (bs + 73), .int 0, .int 0, .int 0, .int 0, .null, .null, .int 0])) := ⟨_, rfl⟩
  have hP : va_P D vwCl (wc bs 74 C62) H := by rw [eC62]; exact hP
  have hO : C62 44 = .inr (10, [.ref (bs + 45), .ref (bs + 46), .ref (bs + 47), .ref (bs + 48), .ref (bs + 49), .ref (bs + 50), .int 0, .int 0, .int 0, .int 0, .ref (bs + 51), .int 0, .int 0, .int 0, .int 0, .int 0, .ref (bs + 52), .ref (bs + 53), .ref (bs + 54), .ref (bs + 55), .ref (bs + 56), .ref (bs + 57), .ref (bs + 58), .ref (bs + 59), .int (3), .int (3), .int (2), .int (2), .ref (bs + 60), .ref (bs + 61), .ref (bs + 62), .ref (bs + 63), .ref (bs + 64), .ref (bs + 65), .ref (bs + 66), .ref (bs + 67), .ref (bs + 68), .ref (bs + 69), .ref (bs + 70), .ref (bs + 71), .ref (bs + 72), .ref (bs + 73), .int 0, .int 0, .int 0, .int 0, .null, .null, .int 0]) := by rw [eC62]; exact cset_eq
  refine lv_aload_n hx hb dX10_init_260 rfl (lv_at hl 0 rfl) ?_
  refine lv_iconst (v := (-1 : Int32)) hx hb dX10_init_261 (by decide) ?_
  refine p_N (K := RX10) (T := TX10) (N := 49) (ci := 10) (ty := .int) 44 45 tyX10 hx hb hts hown hK hP hz hS in_X10 tyX10_ok nmX10 rfl (by decide) hO (by decide) fl_145 rfl (by decide +kernel) rfl rfl (Nat.le_of_ble_eq_true rfl) dX10_init_262 (fun H locs hP hz hS => ?_)
  obtain ⟨C63, eC63⟩ : ∃ z : CW, z = cset C62 44 (.inr (10, [.ref (bs + 45), .ref (bs + 46), .ref (bs + 47), .ref (bs + 48), .ref (bs + 49), .ref (bs + 50), .int 0, .int 0, .int 0, .int 0, .ref (bs + 51), .int 0, .int 0, .int 0, .int 0, .int 0, .ref (bs + 52), .ref (bs + 53), .ref (bs + 54), .ref (bs + 55), .ref (bs + 56), .ref (bs + 57), .ref (bs + 58), .ref (bs + 59), .int (3), .int (3), .int (2), .int (2), .ref (bs + 60), .ref (bs + 61), .ref (bs + 62), .ref (bs + 63), .ref (bs + 64), .ref (bs + 65), .ref (bs + 66), .ref (bs + 67), .ref (bs + 68), .ref (bs + 69), .ref (bs + 70), .ref (bs + 71), .ref (bs + 72), .ref (bs + 73), .int 0, .int 0, .int 0, .int (-1), .null, .null, .int 0])) := ⟨_, rfl⟩
  have hP : va_P D vwCl (wc bs 74 C63) H := by rw [eC63]; exact hP
  have hO : C63 44 = .inr (10, [.ref (bs + 45), .ref (bs + 46), .ref (bs + 47), .ref (bs + 48), .ref (bs + 49), .ref (bs + 50), .int 0, .int 0, .int 0, .int 0, .ref (bs + 51), .int 0, .int 0, .int 0, .int 0, .int 0, .ref (bs + 52), .ref (bs + 53), .ref (bs + 54), .ref (bs + 55), .ref (bs + 56), .ref (bs + 57), .ref (bs + 58), .ref (bs + 59), .int (3), .int (3), .int (2), .int (2), .ref (bs + 60), .ref (bs + 61), .ref (bs + 62), .ref (bs + 63), .ref (bs + 64), .ref (bs + 65), .ref (bs + 66), .ref (bs + 67), .ref (bs + 68), .ref (bs + 69), .ref (bs + 70), .ref (bs + 71), .ref (bs + 72), .ref (bs + 73), .int 0, .int 0, .int 0, .int (-1), .null, .null, .int 0]) := by rw [eC63]; exact cset_eq
  refine lv_aload_n hx hb dX10_init_265 rfl (lv_at hl 0 rfl) ?_
  refine lv_bipush (v := (40 : Int32)) hx hb dX10_init_266 (by decide) ?_
  refine n_A (t0 := 0) (ty := .int) (N' := 40) (a0 := (40, .inl (fun _ => 0))) hx hb hts hK hP hz hS ac_int rfl rfl (fun _ => rfl) (fun _ => rfl) (by decide) rfl (by decide) (Nat.le_of_ble_eq_true rfl) (Nat.le_of_ble_eq_true rfl) dX10_init_268 (fun H hP hz hS => ?_)
  obtain ⟨C64, eC64⟩ : ∃ z : CW, z = cset C63 74 (.inl (y.1, 40, .inl (fun _ => 0))) := ⟨_, rfl⟩
  have hP : va_P D vwCl (wc bs 75 C64) H := by rw [eC64]; exact hP
  have hO : C64 44 = .inr (10, [.ref (bs + 45), .ref (bs + 46), .ref (bs + 47), .ref (bs + 48), .ref (bs + 49), .ref (bs + 50), .int 0, .int 0, .int 0, .int 0, .ref (bs + 51), .int 0, .int 0, .int 0, .int 0, .int 0, .ref (bs + 52), .ref (bs + 53), .ref (bs + 54), .ref (bs + 55), .ref (bs + 56), .ref (bs + 57), .ref (bs + 58), .ref (bs + 59), .int (3), .int (3), .int (2), .int (2), .ref (bs + 60), .ref (bs + 61), .ref (bs + 62), .ref (bs + 63), .ref (bs + 64), .ref (bs + 65), .ref (bs + 66), .ref (bs + 67), .ref (bs + 68), .ref (bs + 69), .ref (bs + 70), .ref (bs + 71), .ref (bs + 72), .ref (bs + 73), .int 0, .int 0, .int 0, .int (-1), .null, .null, .int 0]) := by rw [eC64, cset_ne (by decide)]; exact hO
  refine W.eq (g2 := F0 m 270 ls [.ref (bs + 74), .ref (bs + 44)]) rfl ?_
  refine W.widen (k := 30) (n := 5661) (by omega) (by omega) ?_
  refine p_F (K := RX10) (T := TX10) (N := 49) (ci := 10) (ty := .array .int) 44 46 tyX10 hx hb hts hown hin2 hK hP hz hS in_X10 tyX10_ok nmX10 rfl (by decide) hO (by decide) fl_187 rfl rfl (by decide +kernel) rfl rfl (Nat.le_of_ble_eq_true rfl) dX10_init_270 (fun H locs hP hz hS => ?_)
  obtain ⟨C65, eC65⟩ : ∃ z : CW, z = cset C64 44 (.inr (10, [.ref (bs + 45), .ref (bs + 46), .ref (bs + 47), .ref (bs + 48), .ref (bs + 49), .ref (bs + 50), .int 0, .int 0, .int 0, .int 0, .ref (bs + 51), .int 0, .int 0, .int 0, .int 0, .int 0, .ref (bs + 52), .ref (bs + 53), .ref (bs + 54), .ref (bs + 55), .ref (bs + 56), .ref (bs + 57), .ref (bs + 58), .ref (bs + 59), .int (3), .int (3), .int (2), .int (2), .ref (bs + 60), .ref (bs + 61), .ref (bs + 62), .ref (bs + 63), .ref (bs + 64), .ref (bs + 65), .ref (bs + 66), .ref (bs + 67), .ref (bs + 68), .ref (bs + 69), .ref (bs + 70), .ref (bs + 71), .ref (bs + 72), .ref (bs + 73), .int 0, .int 0, .int 0, .int (-1), .ref (bs + 74), .null, .int 0])) := ⟨_, rfl⟩
  have hP : va_P D vwCl (wc bs 75 C65) H := by rw [eC65]; exact hP
  have hO : C65 44 = .inr (10, [.ref (bs + 45), .ref (bs + 46), .ref (bs + 47), .ref (bs + 48), .ref (bs + 49), .ref (bs + 50), .int 0, .int 0, .int 0, .int 0, .ref (bs + 51), .int 0, .int 0, .int 0, .int 0, .int 0, .ref (bs + 52), .ref (bs + 53), .ref (bs + 54), .ref (bs + 55), .ref (bs + 56), .ref (bs + 57), .ref (bs + 58), .ref (bs + 59), .int (3), .int (3), .int (2), .int (2), .ref (bs + 60), .ref (bs + 61), .ref (bs + 62), .ref (bs + 63), .ref (bs + 64), .ref (bs + 65), .ref (bs + 66), .ref (bs + 67), .ref (bs + 68), .ref (bs + 69), .ref (bs + 70), .ref (bs + 71), .ref (bs + 72), .ref (bs + 73), .int 0, .int 0, .int 0, .int (-1), .ref (bs + 74), .null, .int 0]) := by rw [eC65]; exact cset_eq
  refine lv_aload_n hx hb dX10_init_273 rfl (lv_at hl 0 rfl) ?_
  refine lv_bipush (v := (40 : Int32)) hx hb dX10_init_274 (by decide) ?_
  refine n_A (t0 := 0) (ty := .int) (N' := 40) (a0 := (40, .inl (fun _ => 0))) hx hb hts hK hP hz hS ac_int rfl rfl (fun _ => rfl) (fun _ => rfl) (by decide) rfl (by decide) (Nat.le_of_ble_eq_true rfl) (Nat.le_of_ble_eq_true rfl) dX10_init_276 (fun H hP hz hS => ?_)
  obtain ⟨C66, eC66⟩ : ∃ z : CW, z = cset C65 75 (.inl (y.1, 40, .inl (fun _ => 0))) := ⟨_, rfl⟩
  have hP : va_P D vwCl (wc bs 76 C66) H := by rw [eC66]; exact hP
  have hO : C66 44 = .inr (10, [.ref (bs + 45), .ref (bs + 46), .ref (bs + 47), .ref (bs + 48), .ref (bs + 49), .ref (bs + 50), .int 0, .int 0, .int 0, .int 0, .ref (bs + 51), .int 0, .int 0, .int 0, .int 0, .int 0, .ref (bs + 52), .ref (bs + 53), .ref (bs + 54), .ref (bs + 55), .ref (bs + 56), .ref (bs + 57), .ref (bs + 58), .ref (bs + 59), .int (3), .int (3), .int (2), .int (2), .ref (bs + 60), .ref (bs + 61), .ref (bs + 62), .ref (bs + 63), .ref (bs + 64), .ref (bs + 65), .ref (bs + 66), .ref (bs + 67), .ref (bs + 68), .ref (bs + 69), .ref (bs + 70), .ref (bs + 71), .ref (bs + 72), .ref (bs + 73), .int 0, .int 0, .int 0, .int (-1), .ref (bs + 74), .null, .int 0]) := by rw [eC66, cset_ne (by decide)]; exact hO
  refine W.eq (g2 := F0 m 278 ls [.ref (bs + 75), .ref (bs + 44)]) rfl ?_
  refine W.widen (k := 31) (n := 5701) (by omega) (by omega) ?_
  refine p_F (K := RX10) (T := TX10) (N := 49) (ci := 10) (ty := .array .int) 44 47 tyX10 hx hb hts hown hin2 hK hP hz hS in_X10 tyX10_ok nmX10 rfl (by decide) hO (by decide) fl_188 rfl rfl (by decide +kernel) rfl rfl (Nat.le_of_ble_eq_true rfl) dX10_init_278 (fun H locs hP hz hS => ?_)
  obtain ⟨C67, eC67⟩ : ∃ z : CW, z = cset C66 44 (.inr (10, [.ref (bs + 45), .ref (bs + 46), .ref (bs + 47), .ref (bs + 48), .ref (bs + 49), .ref (bs + 50), .int 0, .int 0, .int 0, .int 0, .ref (bs + 51), .int 0, .int 0, .int 0, .int 0, .int 0, .ref (bs + 52), .ref (bs + 53), .ref (bs + 54), .ref (bs + 55), .ref (bs + 56), .ref (bs + 57), .ref (bs + 58), .ref (bs + 59), .int (3), .int (3), .int (2), .int (2), .ref (bs + 60), .ref (bs + 61), .ref (bs + 62), .ref (bs + 63), .ref (bs + 64), .ref (bs + 65), .ref (bs + 66), .ref (bs + 67), .ref (bs + 68), .ref (bs + 69), .ref (bs + 70), .ref (bs + 71), .ref (bs + 72), .ref (bs + 73), .int 0, .int 0, .int 0, .int (-1), .ref (bs + 74), .ref (bs + 75), .int 0])) := ⟨_, rfl⟩
  have hP : va_P D vwCl (wc bs 76 C67) H := by rw [eC67]; exact hP
  have hO : C67 44 = .inr (10, [.ref (bs + 45), .ref (bs + 46), .ref (bs + 47), .ref (bs + 48), .ref (bs + 49), .ref (bs + 50), .int 0, .int 0, .int 0, .int 0, .ref (bs + 51), .int 0, .int 0, .int 0, .int 0, .int 0, .ref (bs + 52), .ref (bs + 53), .ref (bs + 54), .ref (bs + 55), .ref (bs + 56), .ref (bs + 57), .ref (bs + 58), .ref (bs + 59), .int (3), .int (3), .int (2), .int (2), .ref (bs + 60), .ref (bs + 61), .ref (bs + 62), .ref (bs + 63), .ref (bs + 64), .ref (bs + 65), .ref (bs + 66), .ref (bs + 67), .ref (bs + 68), .ref (bs + 69), .ref (bs + 70), .ref (bs + 71), .ref (bs + 72), .ref (bs + 73), .int 0, .int 0, .int 0, .int (-1), .ref (bs + 74), .ref (bs + 75), .int 0]) := by rw [eC67]; exact cset_eq
  refine lv_aload_n hx hb dX10_init_281 rfl (lv_at hl 0 rfl) ?_
  refine lv_iconst (v := (-1 : Int32)) hx hb dX10_init_282 (by decide) ?_
  refine p_N (K := RX10) (T := TX10) (N := 49) (ci := 10) (ty := .int) 44 48 tyX10 hx hb hts hown hK hP hz hS in_X10 tyX10_ok nmX10 rfl (by decide) hO (by decide) fl_186 rfl (by decide +kernel) rfl rfl (Nat.le_of_ble_eq_true rfl) dX10_init_283 (fun H locs hP hz hS => ?_)
  obtain ⟨C68, eC68⟩ : ∃ z : CW, z = cset C67 44 (.inr (10, [.ref (bs + 45), .ref (bs + 46), .ref (bs + 47), .ref (bs + 48), .ref (bs + 49), .ref (bs + 50), .int 0, .int 0, .int 0, .int 0, .ref (bs + 51), .int 0, .int 0, .int 0, .int 0, .int 0, .ref (bs + 52), .ref (bs + 53), .ref (bs + 54), .ref (bs + 55), .ref (bs + 56), .ref (bs + 57), .ref (bs + 58), .ref (bs + 59), .int (3), .int (3), .int (2), .int (2), .ref (bs + 60), .ref (bs + 61), .ref (bs + 62), .ref (bs + 63), .ref (bs + 64), .ref (bs + 65), .ref (bs + 66), .ref (bs + 67), .ref (bs + 68), .ref (bs + 69), .ref (bs + 70), .ref (bs + 71), .ref (bs + 72), .ref (bs + 73), .int 0, .int 0, .int 0, .int (-1), .ref (bs + 74), .ref (bs + 75), .int (-1)])) := ⟨_, rfl⟩
  have hP : va_P D vwCl (wc bs 76 C68) H := by rw [eC68]; exact hP
  have hO : C68 44 = .inr (10, [.ref (bs + 45), .ref (bs + 46), .ref (bs + 47), .ref (bs + 48), .ref (bs + 49), .ref (bs + 50), .int 0, .int 0, .int 0, .int 0, .ref (bs + 51), .int 0, .int 0, .int 0, .int 0, .int 0, .ref (bs + 52), .ref (bs + 53), .ref (bs + 54), .ref (bs + 55), .ref (bs + 56), .ref (bs + 57), .ref (bs + 58), .ref (bs + 59), .int (3), .int (3), .int (2), .int (2), .ref (bs + 60), .ref (bs + 61), .ref (bs + 62), .ref (bs + 63), .ref (bs + 64), .ref (bs + 65), .ref (bs + 66), .ref (bs + 67), .ref (bs + 68), .ref (bs + 69), .ref (bs + 70), .ref (bs + 71), .ref (bs + 72), .ref (bs + 73), .int 0, .int 0, .int 0, .int (-1), .ref (bs + 74), .ref (bs + 75), .int (-1)]) := by rw [eC68]; exact cset_eq
  refine r_C hx hb hr hlocks hP hz hK hN hL hS ⟨fun a h1 h2 => ?_, fun a h1 => ?_⟩ dX10_init_286
  · rw [eC68, cset_ne (show a ≠ 44 by omega), eC67, cset_ne (show a ≠ 44 by omega), eC66, cset_ne (show a ≠ 75 by omega), eC65, cset_ne (show a ≠ 44 by omega), eC64, cset_ne (show a ≠ 74 by omega), eC63, cset_ne (show a ≠ 44 by omega), eC62, cset_ne (show a ≠ 44 by omega), eC61, cset_ne (show a ≠ 73 by omega), eC60, cset_ne (show a ≠ 44 by omega), eC59, cset_ne (show a ≠ 72 by omega), eC58, cset_ne (show a ≠ 44 by omega), eC57, cset_ne (show a ≠ 71 by omega), eC56, cset_ne (show a ≠ 44 by omega), eC55, cset_ne (show a ≠ 70 by omega), eC54, cset_ne (show a ≠ 44 by omega), eC53, cset_ne (show a ≠ 69 by omega), eC52, cset_ne (show a ≠ 44 by omega), eC51, cset_ne (show a ≠ 68 by omega), eC50, cset_ne (show a ≠ 44 by omega), eC49, cset_ne (show a ≠ 67 by omega), eC48, cset_ne (show a ≠ 44 by omega), eC47, cset_ne (show a ≠ 66 by omega), eC46, cset_ne (show a ≠ 44 by omega), eC45, cset_ne (show a ≠ 65 by omega), eC44, cset_ne (show a ≠ 44 by omega), eC43, cset_ne (show a ≠ 64 by omega), eC42, cset_ne (show a ≠ 44 by omega), eC41, cset_ne (show a ≠ 63 by omega), eC40, cset_ne (show a ≠ 44 by omega), eC39, cset_ne (show a ≠ 62 by omega), eC38, cset_ne (show a ≠ 44 by omega), eC37, cset_ne (show a ≠ 61 by omega), eC36, cset_ne (show a ≠ 44 by omega), eC35, cset_ne (show a ≠ 60 by omega), eC34, cset_ne (show a ≠ 44 by omega), eC33, cset_ne (show a ≠ 44 by omega), eC32, cset_ne (show a ≠ 44 by omega), eC31, cset_ne (show a ≠ 44 by omega), eC30, cset_ne (show a ≠ 44 by omega), eC29, cset_ne (show a ≠ 59 by omega), eC28, cset_ne (show a ≠ 44 by omega), eC27, cset_ne (show a ≠ 58 by omega), eC26, cset_ne (show a ≠ 44 by omega), eC25, cset_ne (show a ≠ 57 by omega), eC24, cset_ne (show a ≠ 44 by omega), eC23, cset_ne (show a ≠ 56 by omega), eC22, cset_ne (show a ≠ 44 by omega), eC21, cset_ne (show a ≠ 55 by omega), eC20, cset_ne (show a ≠ 44 by omega), eC19, cset_ne (show a ≠ 54 by omega), eC18, cset_ne (show a ≠ 44 by omega), eC17, cset_ne (show a ≠ 53 by omega), eC16, cset_ne (show a ≠ 44 by omega), eC15, cset_ne (show a ≠ 52 by omega), eC14, cset_ne (show a ≠ 44 by omega), eC13, cset_ne (show a ≠ 51 by omega), eC12, cset_ne (show a ≠ 44 by omega), eC11, cset_ne (show a ≠ 50 by omega), eC10, cset_ne (show a ≠ 44 by omega), eC9, cset_ne (show a ≠ 49 by omega), eC8, cset_ne (show a ≠ 44 by omega), eC7, cset_ne (show a ≠ 48 by omega), eC6, cset_ne (show a ≠ 44 by omega), eC5, cset_ne (show a ≠ 47 by omega), eC4, cset_ne (show a ≠ 44 by omega), eC3, cset_ne (show a ≠ 46 by omega), eC2, cset_ne (show a ≠ 44 by omega), eC1, cset_ne (show a ≠ 45 by omega)]
  · have h3 : a = 44 ∨ a = 45 ∨ a = 46 ∨ a = 47 ∨ a = 48 ∨ a = 49 ∨ a = 50 ∨ a = 51 ∨ a = 52 ∨ a = 53 ∨ a = 54 ∨ a = 55 ∨ a = 56 ∨ a = 57 ∨ a = 58 ∨ a = 59 ∨ a = 60 ∨ a = 61 ∨ a = 62 ∨ a = 63 ∨ a = 64 ∨ a = 65 ∨ a = 66 ∨ a = 67 ∨ a = 68 ∨ a = 69 ∨ a = 70 ∨ a = 71 ∨ a = 72 ∨ a = 73 ∨ a = 74 ∨ a = 75 := by omega
    rcases h3 with rfl | rfl | rfl | rfl | rfl | rfl | rfl | rfl | rfl | rfl | rfl | rfl | rfl | rfl | rfl | rfl | rfl | rfl | rfl | rfl | rfl | rfl | rfl | rfl | rfl | rfl | rfl | rfl | rfl | rfl | rfl | rfl
    · exact hO.trans tg_44.symm
    · rw [eC68, cset_ne (by decide), eC67, cset_ne (by decide), eC66, cset_ne (by decide), eC65, cset_ne (by decide), eC64, cset_ne (by decide), eC63, cset_ne (by decide), eC62, cset_ne (by decide), eC61, cset_ne (by decide), eC60, cset_ne (by decide), eC59, cset_ne (by decide), eC58, cset_ne (by decide), eC57, cset_ne (by decide), eC56, cset_ne (by decide), eC55, cset_ne (by decide), eC54, cset_ne (by decide), eC53, cset_ne (by decide), eC52, cset_ne (by decide), eC51, cset_ne (by decide), eC50, cset_ne (by decide), eC49, cset_ne (by decide), eC48, cset_ne (by decide), eC47, cset_ne (by decide), eC46, cset_ne (by decide), eC45, cset_ne (by decide), eC44, cset_ne (by decide), eC43, cset_ne (by decide), eC42, cset_ne (by decide), eC41, cset_ne (by decide), eC40, cset_ne (by decide), eC39, cset_ne (by decide), eC38, cset_ne (by decide), eC37, cset_ne (by decide), eC36, cset_ne (by decide), eC35, cset_ne (by decide), eC34, cset_ne (by decide), eC33, cset_ne (by decide), eC32, cset_ne (by decide), eC31, cset_ne (by decide), eC30, cset_ne (by decide), eC29, cset_ne (by decide), eC28, cset_ne (by decide), eC27, cset_ne (by decide), eC26, cset_ne (by decide), eC25, cset_ne (by decide), eC24, cset_ne (by decide), eC23, cset_ne (by decide), eC22, cset_ne (by decide), eC21, cset_ne (by decide), eC20, cset_ne (by decide), eC19, cset_ne (by decide), eC18, cset_ne (by decide), eC17, cset_ne (by decide), eC16, cset_ne (by decide), eC15, cset_ne (by decide), eC14, cset_ne (by decide), eC13, cset_ne (by decide), eC12, cset_ne (by decide), eC11, cset_ne (by decide), eC10, cset_ne (by decide), eC9, cset_ne (by decide), eC8, cset_ne (by decide), eC7, cset_ne (by decide), eC6, cset_ne (by decide), eC5, cset_ne (by decide), eC4, cset_ne (by decide), eC3, cset_ne (by decide), eC2, cset_ne (by decide), eC1, cset_eq]; exact tg_45.symm
    · rw [eC68, cset_ne (by decide), eC67, cset_ne (by decide), eC66, cset_ne (by decide), eC65, cset_ne (by decide), eC64, cset_ne (by decide), eC63, cset_ne (by decide), eC62, cset_ne (by decide), eC61, cset_ne (by decide), eC60, cset_ne (by decide), eC59, cset_ne (by decide), eC58, cset_ne (by decide), eC57, cset_ne (by decide), eC56, cset_ne (by decide), eC55, cset_ne (by decide), eC54, cset_ne (by decide), eC53, cset_ne (by decide), eC52, cset_ne (by decide), eC51, cset_ne (by decide), eC50, cset_ne (by decide), eC49, cset_ne (by decide), eC48, cset_ne (by decide), eC47, cset_ne (by decide), eC46, cset_ne (by decide), eC45, cset_ne (by decide), eC44, cset_ne (by decide), eC43, cset_ne (by decide), eC42, cset_ne (by decide), eC41, cset_ne (by decide), eC40, cset_ne (by decide), eC39, cset_ne (by decide), eC38, cset_ne (by decide), eC37, cset_ne (by decide), eC36, cset_ne (by decide), eC35, cset_ne (by decide), eC34, cset_ne (by decide), eC33, cset_ne (by decide), eC32, cset_ne (by decide), eC31, cset_ne (by decide), eC30, cset_ne (by decide), eC29, cset_ne (by decide), eC28, cset_ne (by decide), eC27, cset_ne (by decide), eC26, cset_ne (by decide), eC25, cset_ne (by decide), eC24, cset_ne (by decide), eC23, cset_ne (by decide), eC22, cset_ne (by decide), eC21, cset_ne (by decide), eC20, cset_ne (by decide), eC19, cset_ne (by decide), eC18, cset_ne (by decide), eC17, cset_ne (by decide), eC16, cset_ne (by decide), eC15, cset_ne (by decide), eC14, cset_ne (by decide), eC13, cset_ne (by decide), eC12, cset_ne (by decide), eC11, cset_ne (by decide), eC10, cset_ne (by decide), eC9, cset_ne (by decide), eC8, cset_ne (by decide), eC7, cset_ne (by decide), eC6, cset_ne (by decide), eC5, cset_ne (by decide), eC4, cset_ne (by decide), eC3, cset_eq]; exact tg_46.symm
    · rw [eC68, cset_ne (by decide), eC67, cset_ne (by decide), eC66, cset_ne (by decide), eC65, cset_ne (by decide), eC64, cset_ne (by decide), eC63, cset_ne (by decide), eC62, cset_ne (by decide), eC61, cset_ne (by decide), eC60, cset_ne (by decide), eC59, cset_ne (by decide), eC58, cset_ne (by decide), eC57, cset_ne (by decide), eC56, cset_ne (by decide), eC55, cset_ne (by decide), eC54, cset_ne (by decide), eC53, cset_ne (by decide), eC52, cset_ne (by decide), eC51, cset_ne (by decide), eC50, cset_ne (by decide), eC49, cset_ne (by decide), eC48, cset_ne (by decide), eC47, cset_ne (by decide), eC46, cset_ne (by decide), eC45, cset_ne (by decide), eC44, cset_ne (by decide), eC43, cset_ne (by decide), eC42, cset_ne (by decide), eC41, cset_ne (by decide), eC40, cset_ne (by decide), eC39, cset_ne (by decide), eC38, cset_ne (by decide), eC37, cset_ne (by decide), eC36, cset_ne (by decide), eC35, cset_ne (by decide), eC34, cset_ne (by decide), eC33, cset_ne (by decide), eC32, cset_ne (by decide), eC31, cset_ne (by decide), eC30, cset_ne (by decide), eC29, cset_ne (by decide), eC28, cset_ne (by decide), eC27, cset_ne (by decide), eC26, cset_ne (by decide), eC25, cset_ne (by decide), eC24, cset_ne (by decide), eC23, cset_ne (by decide), eC22, cset_ne (by decide), eC21, cset_ne (by decide), eC20, cset_ne (by decide), eC19, cset_ne (by decide), eC18, cset_ne (by decide), eC17, cset_ne (by decide), eC16, cset_ne (by decide), eC15, cset_ne (by decide), eC14, cset_ne (by decide), eC13, cset_ne (by decide), eC12, cset_ne (by decide), eC11, cset_ne (by decide), eC10, cset_ne (by decide), eC9, cset_ne (by decide), eC8, cset_ne (by decide), eC7, cset_ne (by decide), eC6, cset_ne (by decide), eC5, cset_eq]; exact tg_47.symm
    · rw [eC68, cset_ne (by decide), eC67, cset_ne (by decide), eC66, cset_ne (by decide), eC65, cset_ne (by decide), eC64, cset_ne (by decide), eC63, cset_ne (by decide), eC62, cset_ne (by decide), eC61, cset_ne (by decide), eC60, cset_ne (by decide), eC59, cset_ne (by decide), eC58, cset_ne (by decide), eC57, cset_ne (by decide), eC56, cset_ne (by decide), eC55, cset_ne (by decide), eC54, cset_ne (by decide), eC53, cset_ne (by decide), eC52, cset_ne (by decide), eC51, cset_ne (by decide), eC50, cset_ne (by decide), eC49, cset_ne (by decide), eC48, cset_ne (by decide), eC47, cset_ne (by decide), eC46, cset_ne (by decide), eC45, cset_ne (by decide), eC44, cset_ne (by decide), eC43, cset_ne (by decide), eC42, cset_ne (by decide), eC41, cset_ne (by decide), eC40, cset_ne (by decide), eC39, cset_ne (by decide), eC38, cset_ne (by decide), eC37, cset_ne (by decide), eC36, cset_ne (by decide), eC35, cset_ne (by decide), eC34, cset_ne (by decide), eC33, cset_ne (by decide), eC32, cset_ne (by decide), eC31, cset_ne (by decide), eC30, cset_ne (by decide), eC29, cset_ne (by decide), eC28, cset_ne (by decide), eC27, cset_ne (by decide), eC26, cset_ne (by decide), eC25, cset_ne (by decide), eC24, cset_ne (by decide), eC23, cset_ne (by decide), eC22, cset_ne (by decide), eC21, cset_ne (by decide), eC20, cset_ne (by decide), eC19, cset_ne (by decide), eC18, cset_ne (by decide), eC17, cset_ne (by decide), eC16, cset_ne (by decide), eC15, cset_ne (by decide), eC14, cset_ne (by decide), eC13, cset_ne (by decide), eC12, cset_ne (by decide), eC11, cset_ne (by decide), eC10, cset_ne (by decide), eC9, cset_ne (by decide), eC8, cset_ne (by decide), eC7, cset_eq]; exact tg_48.symm
    · rw [eC68, cset_ne (by decide), eC67, cset_ne (by decide), eC66, cset_ne (by decide), eC65, cset_ne (by decide), eC64, cset_ne (by decide), eC63, cset_ne (by decide), eC62, cset_ne (by decide), eC61, cset_ne (by decide), eC60, cset_ne (by decide), eC59, cset_ne (by decide), eC58, cset_ne (by decide), eC57, cset_ne (by decide), eC56, cset_ne (by decide), eC55, cset_ne (by decide), eC54, cset_ne (by decide), eC53, cset_ne (by decide), eC52, cset_ne (by decide), eC51, cset_ne (by decide), eC50, cset_ne (by decide), eC49, cset_ne (by decide), eC48, cset_ne (by decide), eC47, cset_ne (by decide), eC46, cset_ne (by decide), eC45, cset_ne (by decide), eC44, cset_ne (by decide), eC43, cset_ne (by decide), eC42, cset_ne (by decide), eC41, cset_ne (by decide), eC40, cset_ne (by decide), eC39, cset_ne (by decide), eC38, cset_ne (by decide), eC37, cset_ne (by decide), eC36, cset_ne (by decide), eC35, cset_ne (by decide), eC34, cset_ne (by decide), eC33, cset_ne (by decide), eC32, cset_ne (by decide), eC31, cset_ne (by decide), eC30, cset_ne (by decide), eC29, cset_ne (by decide), eC28, cset_ne (by decide), eC27, cset_ne (by decide), eC26, cset_ne (by decide), eC25, cset_ne (by decide), eC24, cset_ne (by decide), eC23, cset_ne (by decide), eC22, cset_ne (by decide), eC21, cset_ne (by decide), eC20, cset_ne (by decide), eC19, cset_ne (by decide), eC18, cset_ne (by decide), eC17, cset_ne (by decide), eC16, cset_ne (by decide), eC15, cset_ne (by decide), eC14, cset_ne (by decide), eC13, cset_ne (by decide), eC12, cset_ne (by decide), eC11, cset_ne (by decide), eC10, cset_ne (by decide), eC9, cset_eq]; exact tg_49.symm
    · rw [eC68, cset_ne (by decide), eC67, cset_ne (by decide), eC66, cset_ne (by decide), eC65, cset_ne (by decide), eC64, cset_ne (by decide), eC63, cset_ne (by decide), eC62, cset_ne (by decide), eC61, cset_ne (by decide), eC60, cset_ne (by decide), eC59, cset_ne (by decide), eC58, cset_ne (by decide), eC57, cset_ne (by decide), eC56, cset_ne (by decide), eC55, cset_ne (by decide), eC54, cset_ne (by decide), eC53, cset_ne (by decide), eC52, cset_ne (by decide), eC51, cset_ne (by decide), eC50, cset_ne (by decide), eC49, cset_ne (by decide), eC48, cset_ne (by decide), eC47, cset_ne (by decide), eC46, cset_ne (by decide), eC45, cset_ne (by decide), eC44, cset_ne (by decide), eC43, cset_ne (by decide), eC42, cset_ne (by decide), eC41, cset_ne (by decide), eC40, cset_ne (by decide), eC39, cset_ne (by decide), eC38, cset_ne (by decide), eC37, cset_ne (by decide), eC36, cset_ne (by decide), eC35, cset_ne (by decide), eC34, cset_ne (by decide), eC33, cset_ne (by decide), eC32, cset_ne (by decide), eC31, cset_ne (by decide), eC30, cset_ne (by decide), eC29, cset_ne (by decide), eC28, cset_ne (by decide), eC27, cset_ne (by decide), eC26, cset_ne (by decide), eC25, cset_ne (by decide), eC24, cset_ne (by decide), eC23, cset_ne (by decide), eC22, cset_ne (by decide), eC21, cset_ne (by decide), eC20, cset_ne (by decide), eC19, cset_ne (by decide), eC18, cset_ne (by decide), eC17, cset_ne (by decide), eC16, cset_ne (by decide), eC15, cset_ne (by decide), eC14, cset_ne (by decide), eC13, cset_ne (by decide), eC12, cset_ne (by decide), eC11, cset_eq]; exact tg_50.symm
    · rw [eC68, cset_ne (by decide), eC67, cset_ne (by decide), eC66, cset_ne (by decide), eC65, cset_ne (by decide), eC64, cset_ne (by decide), eC63, cset_ne (by decide), eC62, cset_ne (by decide), eC61, cset_ne (by decide), eC60, cset_ne (by decide), eC59, cset_ne (by decide), eC58, cset_ne (by decide), eC57, cset_ne (by decide), eC56, cset_ne (by decide), eC55, cset_ne (by decide), eC54, cset_ne (by decide), eC53, cset_ne (by decide), eC52, cset_ne (by decide), eC51, cset_ne (by decide), eC50, cset_ne (by decide), eC49, cset_ne (by decide), eC48, cset_ne (by decide), eC47, cset_ne (by decide), eC46, cset_ne (by decide), eC45, cset_ne (by decide), eC44, cset_ne (by decide), eC43, cset_ne (by decide), eC42, cset_ne (by decide), eC41, cset_ne (by decide), eC40, cset_ne (by decide), eC39, cset_ne (by decide), eC38, cset_ne (by decide), eC37, cset_ne (by decide), eC36, cset_ne (by decide), eC35, cset_ne (by decide), eC34, cset_ne (by decide), eC33, cset_ne (by decide), eC32, cset_ne (by decide), eC31, cset_ne (by decide), eC30, cset_ne (by decide), eC29, cset_ne (by decide), eC28, cset_ne (by decide), eC27, cset_ne (by decide), eC26, cset_ne (by decide), eC25, cset_ne (by decide), eC24, cset_ne (by decide), eC23, cset_ne (by decide), eC22, cset_ne (by decide), eC21, cset_ne (by decide), eC20, cset_ne (by decide), eC19, cset_ne (by decide), eC18, cset_ne (by decide), eC17, cset_ne (by decide), eC16, cset_ne (by decide), eC15, cset_ne (by decide), eC14, cset_ne (by decide), eC13, cset_eq]; exact tg_51.symm
    · rw [eC68, cset_ne (by decide), eC67, cset_ne (by decide), eC66, cset_ne (by decide), eC65, cset_ne (by decide), eC64, cset_ne (by decide), eC63, cset_ne (by decide), eC62, cset_ne (by decide), eC61, cset_ne (by decide), eC60, cset_ne (by decide), eC59, cset_ne (by decide), eC58, cset_ne (by decide), eC57, cset_ne (by decide), eC56, cset_ne (by decide), eC55, cset_ne (by decide), eC54, cset_ne (by decide), eC53, cset_ne (by decide), eC52, cset_ne (by decide), eC51, cset_ne (by decide), eC50, cset_ne (by decide), eC49, cset_ne (by decide), eC48, cset_ne (by decide), eC47, cset_ne (by decide), eC46, cset_ne (by decide), eC45, cset_ne (by decide), eC44, cset_ne (by decide), eC43, cset_ne (by decide), eC42, cset_ne (by decide), eC41, cset_ne (by decide), eC40, cset_ne (by decide), eC39, cset_ne (by decide), eC38, cset_ne (by decide), eC37, cset_ne (by decide), eC36, cset_ne (by decide), eC35, cset_ne (by decide), eC34, cset_ne (by decide), eC33, cset_ne (by decide), eC32, cset_ne (by decide), eC31, cset_ne (by decide), eC30, cset_ne (by decide), eC29, cset_ne (by decide), eC28, cset_ne (by decide), eC27, cset_ne (by decide), eC26, cset_ne (by decide), eC25, cset_ne (by decide), eC24, cset_ne (by decide), eC23, cset_ne (by decide), eC22, cset_ne (by decide), eC21, cset_ne (by decide), eC20, cset_ne (by decide), eC19, cset_ne (by decide), eC18, cset_ne (by decide), eC17, cset_ne (by decide), eC16, cset_ne (by decide), eC15, cset_eq]; exact tg_52.symm
    · rw [eC68, cset_ne (by decide), eC67, cset_ne (by decide), eC66, cset_ne (by decide), eC65, cset_ne (by decide), eC64, cset_ne (by decide), eC63, cset_ne (by decide), eC62, cset_ne (by decide), eC61, cset_ne (by decide), eC60, cset_ne (by decide), eC59, cset_ne (by decide), eC58, cset_ne (by decide), eC57, cset_ne (by decide), eC56, cset_ne (by decide), eC55, cset_ne (by decide), eC54, cset_ne (by decide), eC53, cset_ne (by decide), eC52, cset_ne (by decide), eC51, cset_ne (by decide), eC50, cset_ne (by decide), eC49, cset_ne (by decide), eC48, cset_ne (by decide), eC47, cset_ne (by decide), eC46, cset_ne (by decide), eC45, cset_ne (by decide), eC44, cset_ne (by decide), eC43, cset_ne (by decide), eC42, cset_ne (by decide), eC41, cset_ne (by decide), eC40, cset_ne (by decide), eC39, cset_ne (by decide), eC38, cset_ne (by decide), eC37, cset_ne (by decide), eC36, cset_ne (by decide), eC35, cset_ne (by decide), eC34, cset_ne (by decide), eC33, cset_ne (by decide), eC32, cset_ne (by decide), eC31, cset_ne (by decide), eC30, cset_ne (by decide), eC29, cset_ne (by decide), eC28, cset_ne (by decide), eC27, cset_ne (by decide), eC26, cset_ne (by decide), eC25, cset_ne (by decide), eC24, cset_ne (by decide), eC23, cset_ne (by decide), eC22, cset_ne (by decide), eC21, cset_ne (by decide), eC20, cset_ne (by decide), eC19, cset_ne (by decide), eC18, cset_ne (by decide), eC17, cset_eq]; exact tg_53.symm
    · rw [eC68, cset_ne (by decide), eC67, cset_ne (by decide), eC66, cset_ne (by decide), eC65, cset_ne (by decide), eC64, cset_ne (by decide), eC63, cset_ne (by decide), eC62, cset_ne (by decide), eC61, cset_ne (by decide), eC60, cset_ne (by decide), eC59, cset_ne (by decide), eC58, cset_ne (by decide), eC57, cset_ne (by decide), eC56, cset_ne (by decide), eC55, cset_ne (by decide), eC54, cset_ne (by decide), eC53, cset_ne (by decide), eC52, cset_ne (by decide), eC51, cset_ne (by decide), eC50, cset_ne (by decide), eC49, cset_ne (by decide), eC48, cset_ne (by decide), eC47, cset_ne (by decide), eC46, cset_ne (by decide), eC45, cset_ne (by decide), eC44, cset_ne (by decide), eC43, cset_ne (by decide), eC42, cset_ne (by decide), eC41, cset_ne (by decide), eC40, cset_ne (by decide), eC39, cset_ne (by decide), eC38, cset_ne (by decide), eC37, cset_ne (by decide), eC36, cset_ne (by decide), eC35, cset_ne (by decide), eC34, cset_ne (by decide), eC33, cset_ne (by decide), eC32, cset_ne (by decide), eC31, cset_ne (by decide), eC30, cset_ne (by decide), eC29, cset_ne (by decide), eC28, cset_ne (by decide), eC27, cset_ne (by decide), eC26, cset_ne (by decide), eC25, cset_ne (by decide), eC24, cset_ne (by decide), eC23, cset_ne (by decide), eC22, cset_ne (by decide), eC21, cset_ne (by decide), eC20, cset_ne (by decide), eC19, cset_eq]; exact tg_54.symm
    · rw [eC68, cset_ne (by decide), eC67, cset_ne (by decide), eC66, cset_ne (by decide), eC65, cset_ne (by decide), eC64, cset_ne (by decide), eC63, cset_ne (by decide), eC62, cset_ne (by decide), eC61, cset_ne (by decide), eC60, cset_ne (by decide), eC59, cset_ne (by decide), eC58, cset_ne (by decide), eC57, cset_ne (by decide), eC56, cset_ne (by decide), eC55, cset_ne (by decide), eC54, cset_ne (by decide), eC53, cset_ne (by decide), eC52, cset_ne (by decide), eC51, cset_ne (by decide), eC50, cset_ne (by decide), eC49, cset_ne (by decide), eC48, cset_ne (by decide), eC47, cset_ne (by decide), eC46, cset_ne (by decide), eC45, cset_ne (by decide), eC44, cset_ne (by decide), eC43, cset_ne (by decide), eC42, cset_ne (by decide), eC41, cset_ne (by decide), eC40, cset_ne (by decide), eC39, cset_ne (by decide), eC38, cset_ne (by decide), eC37, cset_ne (by decide), eC36, cset_ne (by decide), eC35, cset_ne (by decide), eC34, cset_ne (by decide), eC33, cset_ne (by decide), eC32, cset_ne (by decide), eC31, cset_ne (by decide), eC30, cset_ne (by decide), eC29, cset_ne (by decide), eC28, cset_ne (by decide), eC27, cset_ne (by decide), eC26, cset_ne (by decide), eC25, cset_ne (by decide), eC24, cset_ne (by decide), eC23, cset_ne (by decide), eC22, cset_ne (by decide), eC21, cset_eq]; exact tg_55.symm
    · rw [eC68, cset_ne (by decide), eC67, cset_ne (by decide), eC66, cset_ne (by decide), eC65, cset_ne (by decide), eC64, cset_ne (by decide), eC63, cset_ne (by decide), eC62, cset_ne (by decide), eC61, cset_ne (by decide), eC60, cset_ne (by decide), eC59, cset_ne (by decide), eC58, cset_ne (by decide), eC57, cset_ne (by decide), eC56, cset_ne (by decide), eC55, cset_ne (by decide), eC54, cset_ne (by decide), eC53, cset_ne (by decide), eC52, cset_ne (by decide), eC51, cset_ne (by decide), eC50, cset_ne (by decide), eC49, cset_ne (by decide), eC48, cset_ne (by decide), eC47, cset_ne (by decide), eC46, cset_ne (by decide), eC45, cset_ne (by decide), eC44, cset_ne (by decide), eC43, cset_ne (by decide), eC42, cset_ne (by decide), eC41, cset_ne (by decide), eC40, cset_ne (by decide), eC39, cset_ne (by decide), eC38, cset_ne (by decide), eC37, cset_ne (by decide), eC36, cset_ne (by decide), eC35, cset_ne (by decide), eC34, cset_ne (by decide), eC33, cset_ne (by decide), eC32, cset_ne (by decide), eC31, cset_ne (by decide), eC30, cset_ne (by decide), eC29, cset_ne (by decide), eC28, cset_ne (by decide), eC27, cset_ne (by decide), eC26, cset_ne (by decide), eC25, cset_ne (by decide), eC24, cset_ne (by decide), eC23, cset_eq]; exact tg_56.symm
    · rw [eC68, cset_ne (by decide), eC67, cset_ne (by decide), eC66, cset_ne (by decide), eC65, cset_ne (by decide), eC64, cset_ne (by decide), eC63, cset_ne (by decide), eC62, cset_ne (by decide), eC61, cset_ne (by decide), eC60, cset_ne (by decide), eC59, cset_ne (by decide), eC58, cset_ne (by decide), eC57, cset_ne (by decide), eC56, cset_ne (by decide), eC55, cset_ne (by decide), eC54, cset_ne (by decide), eC53, cset_ne (by decide), eC52, cset_ne (by decide), eC51, cset_ne (by decide), eC50, cset_ne (by decide), eC49, cset_ne (by decide), eC48, cset_ne (by decide), eC47, cset_ne (by decide), eC46, cset_ne (by decide), eC45, cset_ne (by decide), eC44, cset_ne (by decide), eC43, cset_ne (by decide), eC42, cset_ne (by decide), eC41, cset_ne (by decide), eC40, cset_ne (by decide), eC39, cset_ne (by decide), eC38, cset_ne (by decide), eC37, cset_ne (by decide), eC36, cset_ne (by decide), eC35, cset_ne (by decide), eC34, cset_ne (by decide), eC33, cset_ne (by decide), eC32, cset_ne (by decide), eC31, cset_ne (by decide), eC30, cset_ne (by decide), eC29, cset_ne (by decide), eC28, cset_ne (by decide), eC27, cset_ne (by decide), eC26, cset_ne (by decide), eC25, cset_eq]; exact tg_57.symm
    · rw [eC68, cset_ne (by decide), eC67, cset_ne (by decide), eC66, cset_ne (by decide), eC65, cset_ne (by decide), eC64, cset_ne (by decide), eC63, cset_ne (by decide), eC62, cset_ne (by decide), eC61, cset_ne (by decide), eC60, cset_ne (by decide), eC59, cset_ne (by decide), eC58, cset_ne (by decide), eC57, cset_ne (by decide), eC56, cset_ne (by decide), eC55, cset_ne (by decide), eC54, cset_ne (by decide), eC53, cset_ne (by decide), eC52, cset_ne (by decide), eC51, cset_ne (by decide), eC50, cset_ne (by decide), eC49, cset_ne (by decide), eC48, cset_ne (by decide), eC47, cset_ne (by decide), eC46, cset_ne (by decide), eC45, cset_ne (by decide), eC44, cset_ne (by decide), eC43, cset_ne (by decide), eC42, cset_ne (by decide), eC41, cset_ne (by decide), eC40, cset_ne (by decide), eC39, cset_ne (by decide), eC38, cset_ne (by decide), eC37, cset_ne (by decide), eC36, cset_ne (by decide), eC35, cset_ne (by decide), eC34, cset_ne (by decide), eC33, cset_ne (by decide), eC32, cset_ne (by decide), eC31, cset_ne (by decide), eC30, cset_ne (by decide), eC29, cset_ne (by decide), eC28, cset_ne (by decide), eC27, cset_eq]; exact tg_58.symm
    · rw [eC68, cset_ne (by decide), eC67, cset_ne (by decide), eC66, cset_ne (by decide), eC65, cset_ne (by decide), eC64, cset_ne (by decide), eC63, cset_ne (by decide), eC62, cset_ne (by decide), eC61, cset_ne (by decide), eC60, cset_ne (by decide), eC59, cset_ne (by decide), eC58, cset_ne (by decide), eC57, cset_ne (by decide), eC56, cset_ne (by decide), eC55, cset_ne (by decide), eC54, cset_ne (by decide), eC53, cset_ne (by decide), eC52, cset_ne (by decide), eC51, cset_ne (by decide), eC50, cset_ne (by decide), eC49, cset_ne (by decide), eC48, cset_ne (by decide), eC47, cset_ne (by decide), eC46, cset_ne (by decide), eC45, cset_ne (by decide), eC44, cset_ne (by decide), eC43, cset_ne (by decide), eC42, cset_ne (by decide), eC41, cset_ne (by decide), eC40, cset_ne (by decide), eC39, cset_ne (by decide), eC38, cset_ne (by decide), eC37, cset_ne (by decide), eC36, cset_ne (by decide), eC35, cset_ne (by decide), eC34, cset_ne (by decide), eC33, cset_ne (by decide), eC32, cset_ne (by decide), eC31, cset_ne (by decide), eC30, cset_ne (by decide), eC29, cset_eq]; exact tg_59.symm
    · rw [eC68, cset_ne (by decide), eC67, cset_ne (by decide), eC66, cset_ne (by decide), eC65, cset_ne (by decide), eC64, cset_ne (by decide), eC63, cset_ne (by decide), eC62, cset_ne (by decide), eC61, cset_ne (by decide), eC60, cset_ne (by decide), eC59, cset_ne (by decide), eC58, cset_ne (by decide), eC57, cset_ne (by decide), eC56, cset_ne (by decide), eC55, cset_ne (by decide), eC54, cset_ne (by decide), eC53, cset_ne (by decide), eC52, cset_ne (by decide), eC51, cset_ne (by decide), eC50, cset_ne (by decide), eC49, cset_ne (by decide), eC48, cset_ne (by decide), eC47, cset_ne (by decide), eC46, cset_ne (by decide), eC45, cset_ne (by decide), eC44, cset_ne (by decide), eC43, cset_ne (by decide), eC42, cset_ne (by decide), eC41, cset_ne (by decide), eC40, cset_ne (by decide), eC39, cset_ne (by decide), eC38, cset_ne (by decide), eC37, cset_ne (by decide), eC36, cset_ne (by decide), eC35, cset_eq]; exact tg_60.symm
    · rw [eC68, cset_ne (by decide), eC67, cset_ne (by decide), eC66, cset_ne (by decide), eC65, cset_ne (by decide), eC64, cset_ne (by decide), eC63, cset_ne (by decide), eC62, cset_ne (by decide), eC61, cset_ne (by decide), eC60, cset_ne (by decide), eC59, cset_ne (by decide), eC58, cset_ne (by decide), eC57, cset_ne (by decide), eC56, cset_ne (by decide), eC55, cset_ne (by decide), eC54, cset_ne (by decide), eC53, cset_ne (by decide), eC52, cset_ne (by decide), eC51, cset_ne (by decide), eC50, cset_ne (by decide), eC49, cset_ne (by decide), eC48, cset_ne (by decide), eC47, cset_ne (by decide), eC46, cset_ne (by decide), eC45, cset_ne (by decide), eC44, cset_ne (by decide), eC43, cset_ne (by decide), eC42, cset_ne (by decide), eC41, cset_ne (by decide), eC40, cset_ne (by decide), eC39, cset_ne (by decide), eC38, cset_ne (by decide), eC37, cset_eq]; exact tg_61.symm
    · rw [eC68, cset_ne (by decide), eC67, cset_ne (by decide), eC66, cset_ne (by decide), eC65, cset_ne (by decide), eC64, cset_ne (by decide), eC63, cset_ne (by decide), eC62, cset_ne (by decide), eC61, cset_ne (by decide), eC60, cset_ne (by decide), eC59, cset_ne (by decide), eC58, cset_ne (by decide), eC57, cset_ne (by decide), eC56, cset_ne (by decide), eC55, cset_ne (by decide), eC54, cset_ne (by decide), eC53, cset_ne (by decide), eC52, cset_ne (by decide), eC51, cset_ne (by decide), eC50, cset_ne (by decide), eC49, cset_ne (by decide), eC48, cset_ne (by decide), eC47, cset_ne (by decide), eC46, cset_ne (by decide), eC45, cset_ne (by decide), eC44, cset_ne (by decide), eC43, cset_ne (by decide), eC42, cset_ne (by decide), eC41, cset_ne (by decide), eC40, cset_ne (by decide), eC39, cset_eq]; exact tg_62.symm
    · rw [eC68, cset_ne (by decide), eC67, cset_ne (by decide), eC66, cset_ne (by decide), eC65, cset_ne (by decide), eC64, cset_ne (by decide), eC63, cset_ne (by decide), eC62, cset_ne (by decide), eC61, cset_ne (by decide), eC60, cset_ne (by decide), eC59, cset_ne (by decide), eC58, cset_ne (by decide), eC57, cset_ne (by decide), eC56, cset_ne (by decide), eC55, cset_ne (by decide), eC54, cset_ne (by decide), eC53, cset_ne (by decide), eC52, cset_ne (by decide), eC51, cset_ne (by decide), eC50, cset_ne (by decide), eC49, cset_ne (by decide), eC48, cset_ne (by decide), eC47, cset_ne (by decide), eC46, cset_ne (by decide), eC45, cset_ne (by decide), eC44, cset_ne (by decide), eC43, cset_ne (by decide), eC42, cset_ne (by decide), eC41, cset_eq]; exact tg_63.symm
    · rw [eC68, cset_ne (by decide), eC67, cset_ne (by decide), eC66, cset_ne (by decide), eC65, cset_ne (by decide), eC64, cset_ne (by decide), eC63, cset_ne (by decide), eC62, cset_ne (by decide), eC61, cset_ne (by decide), eC60, cset_ne (by decide), eC59, cset_ne (by decide), eC58, cset_ne (by decide), eC57, cset_ne (by decide), eC56, cset_ne (by decide), eC55, cset_ne (by decide), eC54, cset_ne (by decide), eC53, cset_ne (by decide), eC52, cset_ne (by decide), eC51, cset_ne (by decide), eC50, cset_ne (by decide), eC49, cset_ne (by decide), eC48, cset_ne (by decide), eC47, cset_ne (by decide), eC46, cset_ne (by decide), eC45, cset_ne (by decide), eC44, cset_ne (by decide), eC43, cset_eq]; exact tg_64.symm
    · rw [eC68, cset_ne (by decide), eC67, cset_ne (by decide), eC66, cset_ne (by decide), eC65, cset_ne (by decide), eC64, cset_ne (by decide), eC63, cset_ne (by decide), eC62, cset_ne (by decide), eC61, cset_ne (by decide), eC60, cset_ne (by decide), eC59, cset_ne (by decide), eC58, cset_ne (by decide), eC57, cset_ne (by decide), eC56, cset_ne (by decide), eC55, cset_ne (by decide), eC54, cset_ne (by decide), eC53, cset_ne (by decide), eC52, cset_ne (by decide), eC51, cset_ne (by decide), eC50, cset_ne (by decide), eC49, cset_ne (by decide), eC48, cset_ne (by decide), eC47, cset_ne (by decide), eC46, cset_ne (by decide), eC45, cset_eq]; exact tg_65.symm
    · rw [eC68, cset_ne (by decide), eC67, cset_ne (by decide), eC66, cset_ne (by decide), eC65, cset_ne (by decide), eC64, cset_ne (by decide), eC63, cset_ne (by decide), eC62, cset_ne (by decide), eC61, cset_ne (by decide), eC60, cset_ne (by decide), eC59, cset_ne (by decide), eC58, cset_ne (by decide), eC57, cset_ne (by decide), eC56, cset_ne (by decide), eC55, cset_ne (by decide), eC54, cset_ne (by decide), eC53, cset_ne (by decide), eC52, cset_ne (by decide), eC51, cset_ne (by decide), eC50, cset_ne (by decide), eC49, cset_ne (by decide), eC48, cset_ne (by decide), eC47, cset_eq]; exact tg_66.symm
    · rw [eC68, cset_ne (by decide), eC67, cset_ne (by decide), eC66, cset_ne (by decide), eC65, cset_ne (by decide), eC64, cset_ne (by decide), eC63, cset_ne (by decide), eC62, cset_ne (by decide), eC61, cset_ne (by decide), eC60, cset_ne (by decide), eC59, cset_ne (by decide), eC58, cset_ne (by decide), eC57, cset_ne (by decide), eC56, cset_ne (by decide), eC55, cset_ne (by decide), eC54, cset_ne (by decide), eC53, cset_ne (by decide), eC52, cset_ne (by decide), eC51, cset_ne (by decide), eC50, cset_ne (by decide), eC49, cset_eq]; exact tg_67.symm
    · rw [eC68, cset_ne (by decide), eC67, cset_ne (by decide), eC66, cset_ne (by decide), eC65, cset_ne (by decide), eC64, cset_ne (by decide), eC63, cset_ne (by decide), eC62, cset_ne (by decide), eC61, cset_ne (by decide), eC60, cset_ne (by decide), eC59, cset_ne (by decide), eC58, cset_ne (by decide), eC57, cset_ne (by decide), eC56, cset_ne (by decide), eC55, cset_ne (by decide), eC54, cset_ne (by decide), eC53, cset_ne (by decide), eC52, cset_ne (by decide), eC51, cset_eq]; exact tg_68.symm
    · rw [eC68, cset_ne (by decide), eC67, cset_ne (by decide), eC66, cset_ne (by decide), eC65, cset_ne (by decide), eC64, cset_ne (by decide), eC63, cset_ne (by decide), eC62, cset_ne (by decide), eC61, cset_ne (by decide), eC60, cset_ne (by decide), eC59, cset_ne (by decide), eC58, cset_ne (by decide), eC57, cset_ne (by decide), eC56, cset_ne (by decide), eC55, cset_ne (by decide), eC54, cset_ne (by decide), eC53, cset_eq]; exact tg_69.symm
    · rw [eC68, cset_ne (by decide), eC67, cset_ne (by decide), eC66, cset_ne (by decide), eC65, cset_ne (by decide), eC64, cset_ne (by decide), eC63, cset_ne (by decide), eC62, cset_ne (by decide), eC61, cset_ne (by decide), eC60, cset_ne (by decide), eC59, cset_ne (by decide), eC58, cset_ne (by decide), eC57, cset_ne (by decide), eC56, cset_ne (by decide), eC55, cset_eq]; exact tg_70.symm
    · rw [eC68, cset_ne (by decide), eC67, cset_ne (by decide), eC66, cset_ne (by decide), eC65, cset_ne (by decide), eC64, cset_ne (by decide), eC63, cset_ne (by decide), eC62, cset_ne (by decide), eC61, cset_ne (by decide), eC60, cset_ne (by decide), eC59, cset_ne (by decide), eC58, cset_ne (by decide), eC57, cset_eq]; exact tg_71.symm
    · rw [eC68, cset_ne (by decide), eC67, cset_ne (by decide), eC66, cset_ne (by decide), eC65, cset_ne (by decide), eC64, cset_ne (by decide), eC63, cset_ne (by decide), eC62, cset_ne (by decide), eC61, cset_ne (by decide), eC60, cset_ne (by decide), eC59, cset_eq]; exact tg_72.symm
    · rw [eC68, cset_ne (by decide), eC67, cset_ne (by decide), eC66, cset_ne (by decide), eC65, cset_ne (by decide), eC64, cset_ne (by decide), eC63, cset_ne (by decide), eC62, cset_ne (by decide), eC61, cset_eq]; exact tg_73.symm
    · rw [eC68, cset_ne (by decide), eC67, cset_ne (by decide), eC66, cset_ne (by decide), eC65, cset_ne (by decide), eC64, cset_eq]; exact tg_74.symm
    · rw [eC68, cset_ne (by decide), eC67, cset_ne (by decide), eC66, cset_eq]; exact tg_75.symm
theorem ok_X9_init : okC yX9_init cX9_init 1 none 0 := ⟨gtb_mem (List.mem_append_right _ (List.mem_of_getElem? (i := 20) (by decide +kernel))) rfl, gtb_mem (List.mem_append_right _ (List.mem_of_getElem? (i := 1) (by decide +kernel))) rfl, by decide +kernel⟩
theorem oi_X9_init : Cond.instanceMethod yX9_init ∈ gtb := gtb_mem (List.mem_append_right _ (List.mem_of_getElem? (i := 19) (by decide +kernel))) rfl
theorem dX9_init_0 : decode cX9_init 0 = .ok (.aload_n 0, 1) := by decide +kernel
theorem dX9_init_1 : decode cX9_init 1 = .ok (.invokespecial 3, 3) := by decide +kernel
theorem dX9_init_4 : decode cX9_init 4 = .ok (.aload_n 0, 1) := by decide +kernel
theorem dX9_init_5 : decode cX9_init 5 = .ok (.new 9, 3) := by decide +kernel
theorem dX9_init_8 : decode cX9_init 8 = .ok (.dup, 1) := by decide +kernel
theorem dX9_init_9 : decode cX9_init 9 = .ok (.invokespecial 11, 3) := by decide +kernel
theorem dX9_init_12 : decode cX9_init 12 = .ok (.putfield 12, 3) := by decide +kernel
theorem dX9_init_15 : decode cX9_init 15 = .ok (.aload_n 0, 1) := by decide +kernel
theorem dX9_init_16 : decode cX9_init 16 = .ok (.new 16, 3) := by decide +kernel
theorem dX9_init_19 : decode cX9_init 19 = .ok (.dup, 1) := by decide +kernel
theorem dX9_init_20 : decode cX9_init 20 = .ok (.invokespecial 18, 3) := by decide +kernel
theorem dX9_init_23 : decode cX9_init 23 = .ok (.putfield 19, 3) := by decide +kernel
theorem dX9_init_26 : decode cX9_init 26 = .ok (.aload_n 0, 1) := by decide +kernel
theorem dX9_init_27 : decode cX9_init 27 = .ok (.new 23, 3) := by decide +kernel
theorem dX9_init_30 : decode cX9_init 30 = .ok (.dup, 1) := by decide +kernel
theorem dX9_init_31 : decode cX9_init 31 = .ok (.invokespecial 25, 3) := by decide +kernel
theorem dX9_init_34 : decode cX9_init 34 = .ok (.putfield 26, 3) := by decide +kernel
theorem dX9_init_37 : decode cX9_init 37 = .ok (.aload_n 0, 1) := by decide +kernel
theorem dX9_init_38 : decode cX9_init 38 = .ok (.new 30, 3) := by decide +kernel
theorem dX9_init_41 : decode cX9_init 41 = .ok (.dup, 1) := by decide +kernel
theorem dX9_init_42 : decode cX9_init 42 = .ok (.invokespecial 32, 3) := by decide +kernel
theorem dX9_init_45 : decode cX9_init 45 = .ok (.putfield 33, 3) := by decide +kernel
theorem dX9_init_48 : decode cX9_init 48 = .ok (.aload_n 0, 1) := by decide +kernel
theorem dX9_init_49 : decode cX9_init 49 = .ok (.new 37, 3) := by decide +kernel
theorem dX9_init_52 : decode cX9_init 52 = .ok (.dup, 1) := by decide +kernel
theorem dX9_init_53 : decode cX9_init 53 = .ok (.invokespecial 39, 3) := by decide +kernel
theorem dX9_init_56 : decode cX9_init 56 = .ok (.putfield 40, 3) := by decide +kernel
theorem dX9_init_59 : decode cX9_init 59 = .ok (.aload_n 0, 1) := by decide +kernel
theorem dX9_init_60 : decode cX9_init 60 = .ok (.new 44, 3) := by decide +kernel
theorem dX9_init_63 : decode cX9_init 63 = .ok (.dup, 1) := by decide +kernel
theorem dX9_init_64 : decode cX9_init 64 = .ok (.invokespecial 46, 3) := by decide +kernel
theorem dX9_init_67 : decode cX9_init 67 = .ok (.putfield 47, 3) := by decide +kernel
theorem dX9_init_70 : decode cX9_init 70 = .ok (.aload_n 0, 1) := by decide +kernel
theorem dX9_init_71 : decode cX9_init 71 = .ok (.new 51, 3) := by decide +kernel
theorem dX9_init_74 : decode cX9_init 74 = .ok (.dup, 1) := by decide +kernel
theorem dX9_init_75 : decode cX9_init 75 = .ok (.invokespecial 53, 3) := by decide +kernel
theorem dX9_init_78 : decode cX9_init 78 = .ok (.putfield 54, 3) := by decide +kernel
theorem dX9_init_81 : decode cX9_init 81 = .ok (.aload_n 0, 1) := by decide +kernel
theorem dX9_init_82 : decode cX9_init 82 = .ok (.new 58, 3) := by decide +kernel
theorem dX9_init_85 : decode cX9_init 85 = .ok (.dup, 1) := by decide +kernel
theorem dX9_init_86 : decode cX9_init 86 = .ok (.invokespecial 60, 3) := by decide +kernel
theorem dX9_init_89 : decode cX9_init 89 = .ok (.putfield 61, 3) := by decide +kernel
theorem dX9_init_92 : decode cX9_init 92 = .ok (.aload_n 0, 1) := by decide +kernel
theorem dX9_init_93 : decode cX9_init 93 = .ok (.new 65, 3) := by decide +kernel
theorem dX9_init_96 : decode cX9_init 96 = .ok (.dup, 1) := by decide +kernel
theorem dX9_init_97 : decode cX9_init 97 = .ok (.invokespecial 67, 3) := by decide +kernel
theorem dX9_init_100 : decode cX9_init 100 = .ok (.putfield 68, 3) := by decide +kernel
theorem dX9_init_103 : decode cX9_init 103 = .ok (.aload_n 0, 1) := by decide +kernel
theorem dX9_init_104 : decode cX9_init 104 = .ok (.bipush 7, 2) := by decide +kernel
theorem dX9_init_106 : decode cX9_init 106 = .ok (.newarray .int, 2) := by decide +kernel
theorem dX9_init_108 : decode cX9_init 108 = .ok (.putfield 72, 3) := by decide +kernel
theorem dX9_init_111 : decode cX9_init 111 = .ok (.aload_n 0, 1) := by decide +kernel
theorem dX9_init_112 : decode cX9_init 112 = .ok (.getfield 33, 3) := by decide +kernel
theorem dX9_init_115 : decode cX9_init 115 = .ok (.iconst 3, 1) := by decide +kernel
theorem dX9_init_116 : decode cX9_init 116 = .ok (.iconst 3, 1) := by decide +kernel
theorem dX9_init_117 : decode cX9_init 117 = .ok (.iconst 2, 1) := by decide +kernel
theorem dX9_init_118 : decode cX9_init 118 = .ok (.iconst 2, 1) := by decide +kernel
theorem dX9_init_119 : decode cX9_init 119 = .ok (.invokevirtual 76, 3) := by decide +kernel
theorem dX9_init_122 : decode cX9_init 122 = .ok (.aload_n 0, 1) := by decide +kernel
theorem dX9_init_123 : decode cX9_init 123 = .ok (.getfield 61, 3) := by decide +kernel
theorem dX9_init_126 : decode cX9_init 126 = .ok (.aload_n 0, 1) := by decide +kernel
theorem dX9_init_127 : decode cX9_init 127 = .ok (.getfield 12, 3) := by decide +kernel
theorem dX9_init_130 : decode cX9_init 130 = .ok (.invokevirtual 80, 3) := by decide +kernel
theorem dX9_init_133 : decode cX9_init 133 = .ok (.return_, 1) := by decide +kernel
theorem ml_254 : Cond.methodLink RX9 3 objectInit ∈ gtb := gtb_mem (List.mem_append_right _ (List.mem_of_getElem? (i := 21) (by decide +kernel))) rfl
theorem mn_5 : Cond.methodLinkNest RX9 11 yX3_init "ClothMaker" ∈ tables_1 := List.mem_of_getElem? (i := 26) (by decide +kernel)
theorem mn_6 : Cond.methodLinkNest RX9 18 yX0_init "ClothMaker" ∈ tables_1 := List.mem_of_getElem? (i := 93) (by decide +kernel)
theorem mn_7 : Cond.methodLinkNest RX9 25 yX7_init "ClothMaker" ∈ tables_1 := List.mem_of_getElem? (i := 112) (by decide +kernel)
theorem mn_8 : Cond.methodLinkNest RX9 32 yX2_init "ClothMaker" ∈ tables_1 := List.mem_of_getElem? (i := 148) (by decide +kernel)
theorem mn_9 : Cond.methodLinkNest RX9 39 yX5_init "ClothMaker" ∈ tables_1 := List.mem_of_getElem? (i := 197) (by decide +kernel)
theorem mn_10 : Cond.methodLinkNest RX9 46 yX8_init "ClothMaker" ∈ tables_1 := List.mem_of_getElem? (i := 234) (by decide +kernel)
theorem mn_11 : Cond.methodLinkNest RX9 53 yX1_init "ClothMaker" ∈ tables_1 := List.mem_of_getElem? (i := 262) (by decide +kernel)
theorem mn_12 : Cond.methodLinkNest RX9 60 yX6_init "ClothMaker" ∈ tables_1 := List.mem_of_getElem? (i := 288) (by decide +kernel)
theorem mn_13 : Cond.methodLinkNest RX9 67 yX4_init "ClothMaker" ∈ tables_1 := List.mem_of_getElem? (i := 317) (by decide +kernel)
def fX9_init (n : Nat) : Option M2 := Option.bind (fX2_shape n (3 : Int32) (3 : Int32) (2 : Int32) (2 : Int32) zI zJ) (fun r => fX6_begin n r.1 r.2)
set_option maxHeartbeats 4000000 in
set_option maxRecDepth 100000 in
theorem iX9_init_ (l : Launch) (bs : Nat) (D : va_G) (y : Y3) (hy : y.2.2.2 = 44) (n : Nat) (C : CW) (hO : C 0 = .inr (9, [.null, .null, .null, .null, .null, .null, .null, .null, .null, .null])) (r : M2) (h : fX9_init n = some r) : Met l yX9_init (.code yX9_init cX9_init 1 none :: gtb) ({ frames := 2, cells := 43, slots := 3011, locals := 60 } : Room) (va_Pc [.ref (bs + 0)] (HC bs D y 1 C)) (QcV bs D y r) 43 3011 (FA bs) := by
  refine Met.ofW (cc := cX9_init) (maxL := 1) (ret := none) (by decide) rfl ?_
  intro p e s m args below meth c s₁ B hml hv
  obtain ⟨rfl, hz, hP, hK, hN, hL⟩ := hv
  have hx := B.exec
  have hb := B.bytes
  have hr := B.returns
  have hts0 := atoms_spec (ws := .code yX9_init cX9_init 1 none :: gtb) B.pre
  have hts : ∀ w ∈ gtb, w.before [.ref (bs + 0)].toArray s = true := fun w hw => hts0 w (List.mem_cons_of_mem _ hw)
  have hown : s.vm.findClass RX9 = some m.cls := findClass_of_methodNamed B.named
  have hlocks := B.notSynchronized
  have hin2 : meth.name = "<init>" := (name_of_methodNamed B.named B.method).1
  have hS : va_S (FA bs) s.heap s.heap [] := va_S.rf
  have hl := lv_entry [.ref (bs + 0)] (n := 1) (Nat.le_of_ble_eq_true rfl)
  rw [lg_entry_eq]
  generalize (lg_sl [.ref (bs + 0)] ++ List.replicate (1 - (lg_sl [.ref (bs + 0)]).length) Slot.unset).toArray = ls at hl ⊢
  have hl : lv_has ls 1 [(0, .ref (bs + 0))] := hl
  change W p l e ({ frames := 2, cells := 43, slots := 3011, locals := 60 } : Room) s m [.ref (bs + 0)].toArray below meth c s.heap [] 0 0 _ (F0 m 0 ls [])
  have hT : ∀ a, 0 < a → a < 1 → C a = cE bs y zI zJ a := fun a h1 h2 => absurd h2 (by omega)
  refine lv_aload_n hx hb dX9_init_0 rfl (lv_at hl 0 rfl) ?_
  refine W.objInit hx hb hown (hts _ ml_254) (hts _ oi_inst) (hts _ oi_code) rfl (by rw [hml]; exact hl.1) rfl dX9_init_1 (Nat.le_of_ble_eq_true rfl) (Nat.le_of_ble_eq_true rfl) ?_
  refine W.eq (g2 := F0 m 4 ls []) rfl ?_
  refine lv_aload_n hx hb dX9_init_4 rfl (lv_at hl 0 rfl) ?_
  refine n_O (K := RX3) (T := TX3) (N := 11) (ci := 3) tyX3 [.null, .null, .null, .null, .null, .int 0, .int 0, .int 0, .int 0, .int 0, .int 0] hx hb hts hown hK hP hz hS in_X3 tyX3_ok kl_X9_9 ins_X3 ini_X3 rfl (by decide) (Nat.le_of_ble_eq_true rfl) (Nat.le_of_ble_eq_true rfl) dX9_init_5 (fun H hP hz hS => ?_)
  obtain ⟨C1, eC1⟩ : ∃ z : CW, z = cset C 1 (.inr (3, [.null, .null, .null, .null, .null, .int 0, .int 0, .int 0, .int 0, .int 0, .int 0])) := ⟨_, rfl⟩
  have hP : va_P D vwCl (wc bs 2 C1) H := by rw [eC1]; exact hP
  have hO : C1 0 = .inr (9, [.null, .null, .null, .null, .null, .null, .null, .null, .null, .null]) := by rw [eC1, cset_ne (by decide)]; exact hO
  have hW : C1 1 = .inr (3, [.null, .null, .null, .null, .null, .int 0, .int 0, .int 0, .int 0, .int 0, .int 0]) := by rw [eC1]; exact cset_eq
  have hT : ∀ a, 0 < a → a < 1 → C1 a = cE bs y zI zJ a := fun a h1 h2 => by rw [eC1, cset_ne (by omega)]; exact hT a h1 h2
  refine W.eq (g2 := F0 m 8 ls [.ref (bs + 1), .ref (bs + 0)]) rfl ?_
  refine W.widen (k := 1) (n := 11) (by omega) (by omega) ?_
  refine lv_dup hx hb dX9_init_8 rfl ?_
  refine va_callv (va_runIN (As := []) (rest := [.ref (bs + 1), .ref (bs + 0)]) (Ts := gtb) ⟨hx, hb, hml, hown, hts⟩ (iX3_init_ l bs D y C1 hW) ⟨va_cnB 0 hts (gtb_good ok_X3_init.1) rfl rfl rfl (hN _ _ _ _ mn_5) (hts _ ok_X3_init.2.1) ok_X3_init.2.2 ⟨Nat.le_of_ble_eq_true rfl, Nat.le_of_ble_eq_true rfl⟩, rfl, hts _ oi_X3_init⟩ ⟨HC.blind, fun U hU hW => ⟨rfl, HC.at hz hP hK hN hL hS hU hW⟩⟩ rfl rfl hl.1 rfl (lv_room (Nat.le_of_ble_eq_true rfl)) dX9_init_9 ⟨Nat.le_of_ble_eq_true rfl, Nat.le_of_ble_eq_true rfl⟩) hS (fun _ _ h => h) (fun _ h => h) (fun C2 t H locs ht hvm hw hB _ _ hS => ?_)
  obtain ⟨hz, hP, -, -, -⟩ := hB
  rw [ht] at hz hP
  have hO : C2 0 = .inr (9, [.null, .null, .null, .null, .null, .null, .null, .null, .null, .null]) := (hw.1 0 (by decide) (by decide)).trans hO
  have hT : ∀ a, 0 < a → a < 7 → C2 a = cE bs y zI zJ a := by
    intro a h1 h2
    by_cases h3 : a < 1
    · rw [hw.1 a (by omega) (by omega)]; exact hT a h1 h3
    · exact hw.2 a (by omega)
  refine W.eq (g2 := F0 m 12 ls [.ref (bs + 1), .ref (bs + 0)]) rfl ?_
  refine W.widen (k := 6) (n := 147) (by omega) (by omega) ?_
  refine p_F (K := RX9) (T := TX9) (N := 10) (ci := 9) (ty := .object "ClothMaker$Net") 0 0 tyX9 hx hb hts hown hin2 hK hP hz hS in_X9 tyX9_ok nmX9 rfl (by decide) hO (by decide) fl_106 rfl rfl (by decide +kernel) rfl rfl (Nat.le_of_ble_eq_true rfl) dX9_init_12 (fun H locs hP hz hS => ?_)
  obtain ⟨C3, eC3⟩ : ∃ z : CW, z = cset C2 0 (.inr (9, [.ref (bs + 1), .null, .null, .null, .null, .null, .null, .null, .null, .null])) := ⟨_, rfl⟩
  have hP : va_P D vwCl (wc bs 7 C3) H := by rw [eC3]; exact hP
  have hO : C3 0 = .inr (9, [.ref (bs + 1), .null, .null, .null, .null, .null, .null, .null, .null, .null]) := by rw [eC3]; exact cset_eq
  have hT : ∀ a, 0 < a → a < 7 → C3 a = cE bs y zI zJ a := fun a h1 h2 => by rw [eC3, cset_ne (by omega)]; exact hT a h1 h2
  refine lv_aload_n hx hb dX9_init_15 rfl (lv_at hl 0 rfl) ?_
  refine n_O (K := RX0) (T := TX0) (N := 3) (ci := 0) tyX0 [.null, .null, .null] hx hb hts hown hK hP hz hS in_X0 tyX0_ok kl_X9_16 ins_X0 ini_X0 rfl (by decide) (Nat.le_of_ble_eq_true rfl) (Nat.le_of_ble_eq_true rfl) dX9_init_16 (fun H hP hz hS => ?_)
  obtain ⟨C4, eC4⟩ : ∃ z : CW, z = cset C3 7 (.inr (0, [.null, .null, .null])) := ⟨_, rfl⟩
  have hP : va_P D vwCl (wc bs 8 C4) H := by rw [eC4]; exact hP
  have hO : C4 0 = .inr (9, [.ref (bs + 1), .null, .null, .null, .null, .null, .null, .null, .null, .null]) := by rw [eC4, cset_ne (by decide)]; exact hO
  have hW : C4 7 = .inr (0, [.null, .null, .null]) := by rw [eC4]; exact cset_eq
  have hT : ∀ a, 0 < a → a < 7 → C4 a = cE bs y zI zJ a := fun a h1 h2 => by rw [eC4, cset_ne (by omega)]; exact hT a h1 h2
  refine W.eq (g2 := F0 m 19 ls [.ref (bs + 7), .ref (bs + 0)]) rfl ?_
  refine W.widen (k := 7) (n := 150) (by omega) (by omega) ?_
  refine lv_dup hx hb dX9_init_19 rfl ?_
  refine va_callv (va_runIN (As := []) (rest := [.ref (bs + 7), .ref (bs + 0)]) (Ts := gtb) ⟨hx, hb, hml, hown, hts⟩ (iX0_init_ l bs D y C4 hW) ⟨va_cnB 0 hts (gtb_good ok_X0_init.1) rfl rfl rfl (hN _ _ _ _ mn_6) (hts _ ok_X0_init.2.1) ok_X0_init.2.2 ⟨Nat.le_of_ble_eq_true rfl, Nat.le_of_ble_eq_true rfl⟩, rfl, hts _ oi_X0_init⟩ ⟨HC.blind, fun U hU hW => ⟨rfl, HC.at hz hP hK hN hL hS hU hW⟩⟩ rfl rfl hl.1 rfl (lv_room (Nat.le_of_ble_eq_true rfl)) dX9_init_20 ⟨Nat.le_of_ble_eq_true rfl, Nat.le_of_ble_eq_true rfl⟩) hS (fun _ _ h => h) (fun _ h => h) (fun C5 t H locs ht hvm hw hB _ _ hS => ?_)
  obtain ⟨hz, hP, -, -, -⟩ := hB
  rw [ht] at hz hP
  have hO : C5 0 = .inr (9, [.ref (bs + 1), .null, .null, .null, .null, .null, .null, .null, .null, .null]) := (hw.1 0 (by decide) (by decide)).trans hO
  have hT : ∀ a, 0 < a → a < 11 → C5 a = cE bs y zI zJ a := by
    intro a h1 h2
    by_cases h3 : a < 7
    · rw [hw.1 a (by omega) (by omega)]; exact hT a h1 h3
    · exact hw.2 a (by omega)
  refine W.eq (g2 := F0 m 23 ls [.ref (bs + 7), .ref (bs + 0)]) rfl ?_
  refine W.widen (k := 10) (n := 1494) (by omega) (by omega) ?_
  refine p_F (K := RX9) (T := TX9) (N := 10) (ci := 9) (ty := .object "ClothMaker$Cones") 0 1 tyX9 hx hb hts hown hin2 hK hP hz hS in_X9 tyX9_ok nmX9 rfl (by decide) hO (by decide) fl_109 rfl rfl (by decide +kernel) rfl rfl (Nat.le_of_ble_eq_true rfl) dX9_init_23 (fun H locs hP hz hS => ?_)
  obtain ⟨C6, eC6⟩ : ∃ z : CW, z = cset C5 0 (.inr (9, [.ref (bs + 1), .ref (bs + 7), .null, .null, .null, .null, .null, .null, .null, .null])) := ⟨_, rfl⟩
  have hP : va_P D vwCl (wc bs 11 C6) H := by rw [eC6]; exact hP
  have hO : C6 0 = .inr (9, [.ref (bs + 1), .ref (bs + 7), .null, .null, .null, .null, .null, .null, .null, .null]) := by rw [eC6]; exact cset_eq
  have hT : ∀ a, 0 < a → a < 11 → C6 a = cE bs y zI zJ a := fun a h1 h2 => by rw [eC6, cset_ne (by omega)]; exact hT a h1 h2
  refine lv_aload_n hx hb dX9_init_26 rfl (lv_at hl 0 rfl) ?_
  refine n_O (K := RX7) (T := TX7) (N := 7) (ci := 7) tyX7 [.int 0, .int 0, .null, .null, .null, .null, .int 0] hx hb hts hown hK hP hz hS in_X7 tyX7_ok kl_X9_23 ins_X7 ini_X7 rfl (by decide) (Nat.le_of_ble_eq_true rfl) (Nat.le_of_ble_eq_true rfl) dX9_init_27 (fun H hP hz hS => ?_)
  obtain ⟨C7, eC7⟩ : ∃ z : CW, z = cset C6 11 (.inr (7, [.int 0, .int 0, .null, .null, .null, .null, .int 0])) := ⟨_, rfl⟩
  have hP : va_P D vwCl (wc bs 12 C7) H := by rw [eC7]; exact hP
  have hO : C7 0 = .inr (9, [.ref (bs + 1), .ref (bs + 7), .null, .null, .null, .null, .null, .null, .null, .null]) := by rw [eC7, cset_ne (by decide)]; exact hO
  have hW : C7 11 = .inr (7, [.int 0, .int 0, .null, .null, .null, .null, .int 0]) := by rw [eC7]; exact cset_eq
  have hT : ∀ a, 0 < a → a < 11 → C7 a = cE bs y zI zJ a := fun a h1 h2 => by rw [eC7, cset_ne (by omega)]; exact hT a h1 h2
  refine W.eq (g2 := F0 m 30 ls [.ref (bs + 11), .ref (bs + 0)]) rfl ?_
  refine W.widen (k := 11) (n := 1501) (by omega) (by omega) ?_
  refine lv_dup hx hb dX9_init_30 rfl ?_
  refine va_callv (va_runIN (As := []) (rest := [.ref (bs + 11), .ref (bs + 0)]) (Ts := gtb) ⟨hx, hb, hml, hown, hts⟩ (iX7_init_ l bs D y C7 hW) ⟨va_cnB 0 hts (gtb_good ok_X7_init.1) rfl rfl rfl (hN _ _ _ _ mn_7) (hts _ ok_X7_init.2.1) ok_X7_init.2.2 ⟨Nat.le_of_ble_eq_true rfl, Nat.le_of_ble_eq_true rfl⟩, rfl, hts _ oi_X7_init⟩ ⟨HC.blind, fun U hU hW => ⟨rfl, HC.at hz hP hK hN hL hS hU hW⟩⟩ rfl rfl hl.1 rfl (lv_room (Nat.le_of_ble_eq_true rfl)) dX9_init_31 ⟨Nat.le_of_ble_eq_true rfl, Nat.le_of_ble_eq_true rfl⟩) hS (fun _ _ h => h) (fun _ h => h) (fun C8 t H locs ht hvm hw hB _ _ hS => ?_)
  obtain ⟨hz, hP, -, -, -⟩ := hB
  rw [ht] at hz hP
  have hO : C8 0 = .inr (9, [.ref (bs + 1), .ref (bs + 7), .null, .null, .null, .null, .null, .null, .null, .null]) := (hw.1 0 (by decide) (by decide)).trans hO
  have hT : ∀ a, 0 < a → a < 16 → C8 a = cE bs y zI zJ a := by
    intro a h1 h2
    by_cases h3 : a < 11
    · rw [hw.1 a (by omega) (by omega)]; exact hT a h1 h3
    · exact hw.2 a (by omega)
  refine W.eq (g2 := F0 m 34 ls [.ref (bs + 11), .ref (bs + 0)]) rfl ?_
  refine W.widen (k := 15) (n := 1725) (by omega) (by omega) ?_
  refine p_F (K := RX9) (T := TX9) (N := 10) (ci := 9) (ty := .object "ClothMaker$Tables") 0 2 tyX9 hx hb hts hown hin2 hK hP hz hS in_X9 tyX9_ok nmX9 rfl (by decide) hO (by decide) fl_103 rfl rfl (by decide +kernel) rfl rfl (Nat.le_of_ble_eq_true rfl) dX9_init_34 (fun H locs hP hz hS => ?_)
  obtain ⟨C9, eC9⟩ : ∃ z : CW, z = cset C8 0 (.inr (9, [.ref (bs + 1), .ref (bs + 7), .ref (bs + 11), .null, .null, .null, .null, .null, .null, .null])) := ⟨_, rfl⟩
  have hP : va_P D vwCl (wc bs 16 C9) H := by rw [eC9]; exact hP
  have hO : C9 0 = .inr (9, [.ref (bs + 1), .ref (bs + 7), .ref (bs + 11), .null, .null, .null, .null, .null, .null, .null]) := by rw [eC9]; exact cset_eq
  have hT : ∀ a, 0 < a → a < 16 → C9 a = cE bs y zI zJ a := fun a h1 h2 => by rw [eC9, cset_ne (by omega)]; exact hT a h1 h2
  refine lv_aload_n hx hb dX9_init_37 rfl (lv_at hl 0 rfl) ?_
  refine n_O (K := RX2) (T := TX2) (N := 10) (ci := 2) tyX2 [.int 0, .int 0, .int 0, .null, .null, .null, .null, .null, .int 0, .long 0] hx hb hts hown hK hP hz hS in_X2 tyX2_ok kl_X9_30 ins_X2 ini_X2 rfl (by decide) (Nat.le_of_ble_eq_true rfl) (Nat.le_of_ble_eq_true rfl) dX9_init_38 (fun H hP hz hS => ?_)
  obtain ⟨C10, eC10⟩ : ∃ z : CW, z = cset C9 16 (.inr (2, [.int 0, .int 0, .int 0, .null, .null, .null, .null, .null, .int 0, .long 0])) := ⟨_, rfl⟩
  have hP : va_P D vwCl (wc bs 17 C10) H := by rw [eC10]; exact hP
  have hO : C10 0 = .inr (9, [.ref (bs + 1), .ref (bs + 7), .ref (bs + 11), .null, .null, .null, .null, .null, .null, .null]) := by rw [eC10, cset_ne (by decide)]; exact hO
  have hW : C10 16 = .inr (2, [.int 0, .int 0, .int 0, .null, .null, .null, .null, .null, .int 0, .long 0]) := by rw [eC10]; exact cset_eq
  have hT : ∀ a, 0 < a → a < 16 → C10 a = cE bs y zI zJ a := fun a h1 h2 => by rw [eC10, cset_ne (by omega)]; exact hT a h1 h2
  refine W.eq (g2 := F0 m 41 ls [.ref (bs + 16), .ref (bs + 0)]) rfl ?_
  refine W.widen (k := 16) (n := 1735) (by omega) (by omega) ?_
  refine lv_dup hx hb dX9_init_41 rfl ?_
  refine va_callv (va_runIN (As := []) (rest := [.ref (bs + 16), .ref (bs + 0)]) (Ts := gtb) ⟨hx, hb, hml, hown, hts⟩ (iX2_init_ l bs D y C10 hW) ⟨va_cnB 0 hts (gtb_good ok_X2_init.1) rfl rfl rfl (hN _ _ _ _ mn_8) (hts _ ok_X2_init.2.1) ok_X2_init.2.2 ⟨Nat.le_of_ble_eq_true rfl, Nat.le_of_ble_eq_true rfl⟩, rfl, hts _ oi_X2_init⟩ ⟨HC.blind, fun U hU hW => ⟨rfl, HC.at hz hP hK hN hL hS hU hW⟩⟩ rfl rfl hl.1 rfl (lv_room (Nat.le_of_ble_eq_true rfl)) dX9_init_42 ⟨Nat.le_of_ble_eq_true rfl, Nat.le_of_ble_eq_true rfl⟩) hS (fun _ _ h => h) (fun _ h => h) (fun C11 t H locs ht hvm hw hB _ _ hS => ?_)
  obtain ⟨hz, hP, -, -, -⟩ := hB
  rw [ht] at hz hP
  have hO : C11 0 = .inr (9, [.ref (bs + 1), .ref (bs + 7), .ref (bs + 11), .null, .null, .null, .null, .null, .null, .null]) := (hw.1 0 (by decide) (by decide)).trans hO
  have hT : ∀ a, 0 < a → a < 22 → C11 a = cE bs y zI zJ a := by
    intro a h1 h2
    by_cases h3 : a < 16
    · rw [hw.1 a (by omega) (by omega)]; exact hT a h1 h3
    · exact hw.2 a (by omega)
  refine W.eq (g2 := F0 m 45 ls [.ref (bs + 16), .ref (bs + 0)]) rfl ?_
  refine W.widen (k := 21) (n := 2071) (by omega) (by omega) ?_
  refine p_F (K := RX9) (T := TX9) (N := 10) (ci := 9) (ty := .object "ClothMaker$Grid") 0 3 tyX9 hx hb hts hown hin2 hK hP hz hS in_X9 tyX9_ok nmX9 rfl (by decide) hO (by decide) fl_121 rfl rfl (by decide +kernel) rfl rfl (Nat.le_of_ble_eq_true rfl) dX9_init_45 (fun H locs hP hz hS => ?_)
  obtain ⟨C12, eC12⟩ : ∃ z : CW, z = cset C11 0 (.inr (9, [.ref (bs + 1), .ref (bs + 7), .ref (bs + 11), .ref (bs + 16), .null, .null, .null, .null, .null, .null])) := ⟨_, rfl⟩
  have hP : va_P D vwCl (wc bs 22 C12) H := by rw [eC12]; exact hP
  have hO : C12 0 = .inr (9, [.ref (bs + 1), .ref (bs + 7), .ref (bs + 11), .ref (bs + 16), .null, .null, .null, .null, .null, .null]) := by rw [eC12]; exact cset_eq
  have hT : ∀ a, 0 < a → a < 22 → C12 a = cE bs y zI zJ a := fun a h1 h2 => by rw [eC12, cset_ne (by omega)]; exact hT a h1 h2
  refine lv_aload_n hx hb dX9_init_48 rfl (lv_at hl 0 rfl) ?_
  refine n_O (K := RX5) (T := TX5) (N := 7) (ci := 5) tyX5 [.int 0, .int 0, .null, .null, .null, .null, .null] hx hb hts hown hK hP hz hS in_X5 tyX5_ok kl_X9_37 ins_X5 ini_X5 rfl (by decide) (Nat.le_of_ble_eq_true rfl) (Nat.le_of_ble_eq_true rfl) dX9_init_49 (fun H hP hz hS => ?_)
  obtain ⟨C13, eC13⟩ : ∃ z : CW, z = cset C12 22 (.inr (5, [.int 0, .int 0, .null, .null, .null, .null, .null])) := ⟨_, rfl⟩
  have hP : va_P D vwCl (wc bs 23 C13) H := by rw [eC13]; exact hP
  have hO : C13 0 = .inr (9, [.ref (bs + 1), .ref (bs + 7), .ref (bs + 11), .ref (bs + 16), .null, .null, .null, .null, .null, .null]) := by rw [eC13, cset_ne (by decide)]; exact hO
  have hW : C13 22 = .inr (5, [.int 0, .int 0, .null, .null, .null, .null, .null]) := by rw [eC13]; exact cset_eq
  have hT : ∀ a, 0 < a → a < 22 → C13 a = cE bs y zI zJ a := fun a h1 h2 => by rw [eC13, cset_ne (by omega)]; exact hT a h1 h2
  refine W.eq (g2 := F0 m 52 ls [.ref (bs + 22), .ref (bs + 0)]) rfl ?_
  refine W.widen (k := 22) (n := 2078) (by omega) (by omega) ?_
  refine lv_dup hx hb dX9_init_52 rfl ?_
  refine va_callv (va_runIN (As := []) (rest := [.ref (bs + 22), .ref (bs + 0)]) (Ts := gtb) ⟨hx, hb, hml, hown, hts⟩ (iX5_init_ l bs D y C13 hW) ⟨va_cnB 0 hts (gtb_good ok_X5_init.1) rfl rfl rfl (hN _ _ _ _ mn_9) (hts _ ok_X5_init.2.1) ok_X5_init.2.2 ⟨Nat.le_of_ble_eq_true rfl, Nat.le_of_ble_eq_true rfl⟩, rfl, hts _ oi_X5_init⟩ ⟨HC.blind, fun U hU hW => ⟨rfl, HC.at hz hP hK hN hL hS hU hW⟩⟩ rfl rfl hl.1 rfl (lv_room (Nat.le_of_ble_eq_true rfl)) dX9_init_53 ⟨Nat.le_of_ble_eq_true rfl, Nat.le_of_ble_eq_true rfl⟩) hS (fun _ _ h => h) (fun _ h => h) (fun C14 t H locs ht hvm hw hB _ _ hS => ?_)
  obtain ⟨hz, hP, -, -, -⟩ := hB
  rw [ht] at hz hP
  have hO : C14 0 = .inr (9, [.ref (bs + 1), .ref (bs + 7), .ref (bs + 11), .ref (bs + 16), .null, .null, .null, .null, .null, .null]) := (hw.1 0 (by decide) (by decide)).trans hO
  have hT : ∀ a, 0 < a → a < 28 → C14 a = cE bs y zI zJ a := by
    intro a h1 h2
    by_cases h3 : a < 22
    · rw [hw.1 a (by omega) (by omega)]; exact hT a h1 h3
    · exact hw.2 a (by omega)
  refine W.eq (g2 := F0 m 56 ls [.ref (bs + 22), .ref (bs + 0)]) rfl ?_
  refine W.widen (k := 27) (n := 2242) (by omega) (by omega) ?_
  refine p_F (K := RX9) (T := TX9) (N := 10) (ci := 9) (ty := .object "ClothMaker$Places") 0 4 tyX9 hx hb hts hown hin2 hK hP hz hS in_X9 tyX9_ok nmX9 rfl (by decide) hO (by decide) fl_101 rfl rfl (by decide +kernel) rfl rfl (Nat.le_of_ble_eq_true rfl) dX9_init_56 (fun H locs hP hz hS => ?_)
  obtain ⟨C15, eC15⟩ : ∃ z : CW, z = cset C14 0 (.inr (9, [.ref (bs + 1), .ref (bs + 7), .ref (bs + 11), .ref (bs + 16), .ref (bs + 22), .null, .null, .null, .null, .null])) := ⟨_, rfl⟩
  have hP : va_P D vwCl (wc bs 28 C15) H := by rw [eC15]; exact hP
  have hO : C15 0 = .inr (9, [.ref (bs + 1), .ref (bs + 7), .ref (bs + 11), .ref (bs + 16), .ref (bs + 22), .null, .null, .null, .null, .null]) := by rw [eC15]; exact cset_eq
  have hT : ∀ a, 0 < a → a < 28 → C15 a = cE bs y zI zJ a := fun a h1 h2 => by rw [eC15, cset_ne (by omega)]; exact hT a h1 h2
  refine lv_aload_n hx hb dX9_init_59 rfl (lv_at hl 0 rfl) ?_
  refine n_O (K := RX8) (T := TX8) (N := 6) (ci := 8) tyX8 [.int 0, .null, .null, .null, .null, .null] hx hb hts hown hK hP hz hS in_X8 tyX8_ok kl_X9_44 ins_X8 ini_X8 rfl (by decide) (Nat.le_of_ble_eq_true rfl) (Nat.le_of_ble_eq_true rfl) dX9_init_60 (fun H hP hz hS => ?_)
  obtain ⟨C16, eC16⟩ : ∃ z : CW, z = cset C15 28 (.inr (8, [.int 0, .null, .null, .null, .null, .null])) := ⟨_, rfl⟩
  have hP : va_P D vwCl (wc bs 29 C16) H := by rw [eC16]; exact hP
  have hO : C16 0 = .inr (9, [.ref (bs + 1), .ref (bs + 7), .ref (bs + 11), .ref (bs + 16), .ref (bs + 22), .null, .null, .null, .null, .null]) := by rw [eC16, cset_ne (by decide)]; exact hO
  have hW : C16 28 = .inr (8, [.int 0, .null, .null, .null, .null, .null]) := by rw [eC16]; exact cset_eq
  have hT : ∀ a, 0 < a → a < 28 → C16 a = cE bs y zI zJ a := fun a h1 h2 => by rw [eC16, cset_ne (by omega)]; exact hT a h1 h2
  refine W.eq (g2 := F0 m 63 ls [.ref (bs + 28), .ref (bs + 0)]) rfl ?_
  refine W.widen (k := 28) (n := 2248) (by omega) (by omega) ?_
  refine lv_dup hx hb dX9_init_63 rfl ?_
  refine va_callv (va_runIN (As := []) (rest := [.ref (bs + 28), .ref (bs + 0)]) (Ts := gtb) ⟨hx, hb, hml, hown, hts⟩ (iX8_init_ l bs D y C16 hW) ⟨va_cnB 0 hts (gtb_good ok_X8_init.1) rfl rfl rfl (hN _ _ _ _ mn_10) (hts _ ok_X8_init.2.1) ok_X8_init.2.2 ⟨Nat.le_of_ble_eq_true rfl, Nat.le_of_ble_eq_true rfl⟩, rfl, hts _ oi_X8_init⟩ ⟨HC.blind, fun U hU hW => ⟨rfl, HC.at hz hP hK hN hL hS hU hW⟩⟩ rfl rfl hl.1 rfl (lv_room (Nat.le_of_ble_eq_true rfl)) dX9_init_64 ⟨Nat.le_of_ble_eq_true rfl, Nat.le_of_ble_eq_true rfl⟩) hS (fun _ _ h => h) (fun _ h => h) (fun C17 t H locs ht hvm hw hB _ _ hS => ?_)
  obtain ⟨hz, hP, -, -, -⟩ := hB
  rw [ht] at hz hP
  have hO : C17 0 = .inr (9, [.ref (bs + 1), .ref (bs + 7), .ref (bs + 11), .ref (bs + 16), .ref (bs + 22), .null, .null, .null, .null, .null]) := (hw.1 0 (by decide) (by decide)).trans hO
  have hT : ∀ a, 0 < a → a < 34 → C17 a = cE bs y zI zJ a := by
    intro a h1 h2
    by_cases h3 : a < 28
    · rw [hw.1 a (by omega) (by omega)]; exact hT a h1 h3
    · exact hw.2 a (by omega)
  refine W.eq (g2 := F0 m 67 ls [.ref (bs + 28), .ref (bs + 0)]) rfl ?_
  refine W.widen (k := 33) (n := 2496) (by omega) (by omega) ?_
  refine p_F (K := RX9) (T := TX9) (N := 10) (ci := 9) (ty := .object "ClothMaker$Ways") 0 5 tyX9 hx hb hts hown hin2 hK hP hz hS in_X9 tyX9_ok nmX9 rfl (by decide) hO (by decide) fl_97 rfl rfl (by decide +kernel) rfl rfl (Nat.le_of_ble_eq_true rfl) dX9_init_67 (fun H locs hP hz hS => ?_)
  obtain ⟨C18, eC18⟩ : ∃ z : CW, z = cset C17 0 (.inr (9, [.ref (bs + 1), .ref (bs + 7), .ref (bs + 11), .ref (bs + 16), .ref (bs + 22), .ref (bs + 28), .null, .null, .null, .null])) := ⟨_, rfl⟩
  have hP : va_P D vwCl (wc bs 34 C18) H := by rw [eC18]; exact hP
  have hO : C18 0 = .inr (9, [.ref (bs + 1), .ref (bs + 7), .ref (bs + 11), .ref (bs + 16), .ref (bs + 22), .ref (bs + 28), .null, .null, .null, .null]) := by rw [eC18]; exact cset_eq
  have hT : ∀ a, 0 < a → a < 34 → C18 a = cE bs y zI zJ a := fun a h1 h2 => by rw [eC18, cset_ne (by omega)]; exact hT a h1 h2
  refine lv_aload_n hx hb dX9_init_70 rfl (lv_at hl 0 rfl) ?_
  refine n_O (K := RX1) (T := TX1) (N := 5) (ci := 1) tyX1 [.int 0, .int 0, .null, .null, .null] hx hb hts hown hK hP hz hS in_X1 tyX1_ok kl_X9_51 ins_X1 ini_X1 rfl (by decide) (Nat.le_of_ble_eq_true rfl) (Nat.le_of_ble_eq_true rfl) dX9_init_71 (fun H hP hz hS => ?_)
  obtain ⟨C19, eC19⟩ : ∃ z : CW, z = cset C18 34 (.inr (1, [.int 0, .int 0, .null, .null, .null])) := ⟨_, rfl⟩
  have hP : va_P D vwCl (wc bs 35 C19) H := by rw [eC19]; exact hP
  have hO : C19 0 = .inr (9, [.ref (bs + 1), .ref (bs + 7), .ref (bs + 11), .ref (bs + 16), .ref (bs + 22), .ref (bs + 28), .null, .null, .null, .null]) := by rw [eC19, cset_ne (by decide)]; exact hO
  have hW : C19 34 = .inr (1, [.int 0, .int 0, .null, .null, .null]) := by rw [eC19]; exact cset_eq
  have hT : ∀ a, 0 < a → a < 34 → C19 a = cE bs y zI zJ a := fun a h1 h2 => by rw [eC19, cset_ne (by omega)]; exact hT a h1 h2
  refine W.eq (g2 := F0 m 74 ls [.ref (bs + 34), .ref (bs + 0)]) rfl ?_
  refine W.widen (k := 34) (n := 2501) (by omega) (by omega) ?_
  refine lv_dup hx hb dX9_init_74 rfl ?_
  refine va_callv (va_runIN (As := []) (rest := [.ref (bs + 34), .ref (bs + 0)]) (Ts := gtb) ⟨hx, hb, hml, hown, hts⟩ (iX1_init_ l bs D y C19 hW) ⟨va_cnB 0 hts (gtb_good ok_X1_init.1) rfl rfl rfl (hN _ _ _ _ mn_11) (hts _ ok_X1_init.2.1) ok_X1_init.2.2 ⟨Nat.le_of_ble_eq_true rfl, Nat.le_of_ble_eq_true rfl⟩, rfl, hts _ oi_X1_init⟩ ⟨HC.blind, fun U hU hW => ⟨rfl, HC.at hz hP hK hN hL hS hU hW⟩⟩ rfl rfl hl.1 rfl (lv_room (Nat.le_of_ble_eq_true rfl)) dX9_init_75 ⟨Nat.le_of_ble_eq_true rfl, Nat.le_of_ble_eq_true rfl⟩) hS (fun _ _ h => h) (fun _ h => h) (fun C20 t H locs ht hvm hw hB _ _ hS => ?_)
  obtain ⟨hz, hP, -, -, -⟩ := hB
  rw [ht] at hz hP
  have hO : C20 0 = .inr (9, [.ref (bs + 1), .ref (bs + 7), .ref (bs + 11), .ref (bs + 16), .ref (bs + 22), .ref (bs + 28), .null, .null, .null, .null]) := (hw.1 0 (by decide) (by decide)).trans hO
  have hT : ∀ a, 0 < a → a < 38 → C20 a = cE bs y zI zJ a := by
    intro a h1 h2
    by_cases h3 : a < 34
    · rw [hw.1 a (by omega) (by omega)]; exact hT a h1 h3
    · exact hw.2 a (by omega)
  refine W.eq (g2 := F0 m 78 ls [.ref (bs + 34), .ref (bs + 0)]) rfl ?_
  refine W.widen (k := 37) (n := 2894) (by omega) (by omega) ?_
  refine p_F (K := RX9) (T := TX9) (N := 10) (ci := 9) (ty := .object "ClothMaker$Frames") 0 6 tyX9 hx hb hts hown hin2 hK hP hz hS in_X9 tyX9_ok nmX9 rfl (by decide) hO (by decide) fl_99 rfl rfl (by decide +kernel) rfl rfl (Nat.le_of_ble_eq_true rfl) dX9_init_78 (fun H locs hP hz hS => ?_)
  obtain ⟨C21, eC21⟩ : ∃ z : CW, z = cset C20 0 (.inr (9, [.ref (bs + 1), .ref (bs + 7), .ref (bs + 11), .ref (bs + 16), .ref (bs + 22), .ref (bs + 28), .ref (bs + 34), .null, .null, .null])) := ⟨_, rfl⟩
  have hP : va_P D vwCl (wc bs 38 C21) H := by rw [eC21]; exact hP
  have hO : C21 0 = .inr (9, [.ref (bs + 1), .ref (bs + 7), .ref (bs + 11), .ref (bs + 16), .ref (bs + 22), .ref (bs + 28), .ref (bs + 34), .null, .null, .null]) := by rw [eC21]; exact cset_eq
  have hT : ∀ a, 0 < a → a < 38 → C21 a = cE bs y zI zJ a := fun a h1 h2 => by rw [eC21, cset_ne (by omega)]; exact hT a h1 h2
  refine lv_aload_n hx hb dX9_init_81 rfl (lv_at hl 0 rfl) ?_
  refine n_O (K := RX6) (T := TX6) (N := 6) (ci := 6) tyX6 [.int 0, .int 0, .int 0, .int 0, .null, .null] hx hb hts hown hK hP hz hS in_X6 tyX6_ok kl_X9_58 ins_X6 ini_X6 rfl (by decide) (Nat.le_of_ble_eq_true rfl) (Nat.le_of_ble_eq_true rfl) dX9_init_82 (fun H hP hz hS => ?_)
  obtain ⟨C22, eC22⟩ : ∃ z : CW, z = cset C21 38 (.inr (6, [.int 0, .int 0, .int 0, .int 0, .null, .null])) := ⟨_, rfl⟩
  have hP : va_P D vwCl (wc bs 39 C22) H := by rw [eC22]; exact hP
  have hO : C22 0 = .inr (9, [.ref (bs + 1), .ref (bs + 7), .ref (bs + 11), .ref (bs + 16), .ref (bs + 22), .ref (bs + 28), .ref (bs + 34), .null, .null, .null]) := by rw [eC22, cset_ne (by decide)]; exact hO
  have hW : C22 38 = .inr (6, [.int 0, .int 0, .int 0, .int 0, .null, .null]) := by rw [eC22]; exact cset_eq
  have hT : ∀ a, 0 < a → a < 38 → C22 a = cE bs y zI zJ a := fun a h1 h2 => by rw [eC22, cset_ne (by omega)]; exact hT a h1 h2
  refine W.eq (g2 := F0 m 85 ls [.ref (bs + 38), .ref (bs + 0)]) rfl ?_
  refine W.widen (k := 38) (n := 2900) (by omega) (by omega) ?_
  refine lv_dup hx hb dX9_init_85 rfl ?_
  refine va_callv (va_runIN (As := []) (rest := [.ref (bs + 38), .ref (bs + 0)]) (Ts := gtb) ⟨hx, hb, hml, hown, hts⟩ (iX6_init_ l bs D y C22 hW) ⟨va_cnB 0 hts (gtb_good ok_X6_init.1) rfl rfl rfl (hN _ _ _ _ mn_12) (hts _ ok_X6_init.2.1) ok_X6_init.2.2 ⟨Nat.le_of_ble_eq_true rfl, Nat.le_of_ble_eq_true rfl⟩, rfl, hts _ oi_X6_init⟩ ⟨HC.blind, fun U hU hW => ⟨rfl, HC.at hz hP hK hN hL hS hU hW⟩⟩ rfl rfl hl.1 rfl (lv_room (Nat.le_of_ble_eq_true rfl)) dX9_init_86 ⟨Nat.le_of_ble_eq_true rfl, Nat.le_of_ble_eq_true rfl⟩) hS (fun _ _ h => h) (fun _ h => h) (fun C23 t H locs ht hvm hw hB _ _ hS => ?_)
  obtain ⟨hz, hP, -, -, -⟩ := hB
  rw [ht] at hz hP
  have hO : C23 0 = .inr (9, [.ref (bs + 1), .ref (bs + 7), .ref (bs + 11), .ref (bs + 16), .ref (bs + 22), .ref (bs + 28), .ref (bs + 34), .null, .null, .null]) := (hw.1 0 (by decide) (by decide)).trans hO
  have hT : ∀ a, 0 < a → a < 41 → C23 a = cE bs y zI zJ a := by
    intro a h1 h2
    by_cases h3 : a < 38
    · rw [hw.1 a (by omega) (by omega)]; exact hT a h1 h3
    · exact hw.2 a (by omega)
  refine W.eq (g2 := F0 m 89 ls [.ref (bs + 38), .ref (bs + 0)]) rfl ?_
  refine W.widen (k := 40) (n := 2964) (by omega) (by omega) ?_
  refine p_F (K := RX9) (T := TX9) (N := 10) (ci := 9) (ty := .object "ClothMaker$Runs") 0 7 tyX9 hx hb hts hown hin2 hK hP hz hS in_X9 tyX9_ok nmX9 rfl (by decide) hO (by decide) fl_105 rfl rfl (by decide +kernel) rfl rfl (Nat.le_of_ble_eq_true rfl) dX9_init_89 (fun H locs hP hz hS => ?_)
  obtain ⟨C24, eC24⟩ : ∃ z : CW, z = cset C23 0 (.inr (9, [.ref (bs + 1), .ref (bs + 7), .ref (bs + 11), .ref (bs + 16), .ref (bs + 22), .ref (bs + 28), .ref (bs + 34), .ref (bs + 38), .null, .null])) := ⟨_, rfl⟩
  have hP : va_P D vwCl (wc bs 41 C24) H := by rw [eC24]; exact hP
  have hO : C24 0 = .inr (9, [.ref (bs + 1), .ref (bs + 7), .ref (bs + 11), .ref (bs + 16), .ref (bs + 22), .ref (bs + 28), .ref (bs + 34), .ref (bs + 38), .null, .null]) := by rw [eC24]; exact cset_eq
  have hT : ∀ a, 0 < a → a < 41 → C24 a = cE bs y zI zJ a := fun a h1 h2 => by rw [eC24, cset_ne (by omega)]; exact hT a h1 h2
  refine lv_aload_n hx hb dX9_init_92 rfl (lv_at hl 0 rfl) ?_
  refine n_O (K := RX4) (T := TX4) (N := 3) (ci := 4) tyX4 [.int 0, .int 0, .null] hx hb hts hown hK hP hz hS in_X4 tyX4_ok kl_X9_65 ins_X4 ini_X4 rfl (by decide) (Nat.le_of_ble_eq_true rfl) (Nat.le_of_ble_eq_true rfl) dX9_init_93 (fun H hP hz hS => ?_)
  obtain ⟨C25, eC25⟩ : ∃ z : CW, z = cset C24 41 (.inr (4, [.int 0, .int 0, .null])) := ⟨_, rfl⟩
  have hP : va_P D vwCl (wc bs 42 C25) H := by rw [eC25]; exact hP
  have hO : C25 0 = .inr (9, [.ref (bs + 1), .ref (bs + 7), .ref (bs + 11), .ref (bs + 16), .ref (bs + 22), .ref (bs + 28), .ref (bs + 34), .ref (bs + 38), .null, .null]) := by rw [eC25, cset_ne (by decide)]; exact hO
  have hW : C25 41 = .inr (4, [.int 0, .int 0, .null]) := by rw [eC25]; exact cset_eq
  have hT : ∀ a, 0 < a → a < 41 → C25 a = cE bs y zI zJ a := fun a h1 h2 => by rw [eC25, cset_ne (by omega)]; exact hT a h1 h2
  refine W.eq (g2 := F0 m 96 ls [.ref (bs + 41), .ref (bs + 0)]) rfl ?_
  refine W.widen (k := 41) (n := 2967) (by omega) (by omega) ?_
  refine lv_dup hx hb dX9_init_96 rfl ?_
  refine va_callv (va_runIN (As := []) (rest := [.ref (bs + 41), .ref (bs + 0)]) (Ts := gtb) ⟨hx, hb, hml, hown, hts⟩ (iX4_init_ l bs D y C25 hW) ⟨va_cnB 0 hts (gtb_good ok_X4_init.1) rfl rfl rfl (hN _ _ _ _ mn_13) (hts _ ok_X4_init.2.1) ok_X4_init.2.2 ⟨Nat.le_of_ble_eq_true rfl, Nat.le_of_ble_eq_true rfl⟩, rfl, hts _ oi_X4_init⟩ ⟨HC.blind, fun U hU hW => ⟨rfl, HC.at hz hP hK hN hL hS hU hW⟩⟩ rfl rfl hl.1 rfl (lv_room (Nat.le_of_ble_eq_true rfl)) dX9_init_97 ⟨Nat.le_of_ble_eq_true rfl, Nat.le_of_ble_eq_true rfl⟩) hS (fun _ _ h => h) (fun _ h => h) (fun C26 t H locs ht hvm hw hB _ _ hS => ?_)
  obtain ⟨hz, hP, -, -, -⟩ := hB
  rw [ht] at hz hP
  have hO : C26 0 = .inr (9, [.ref (bs + 1), .ref (bs + 7), .ref (bs + 11), .ref (bs + 16), .ref (bs + 22), .ref (bs + 28), .ref (bs + 34), .ref (bs + 38), .null, .null]) := (hw.1 0 (by decide) (by decide)).trans hO
  have hT : ∀ a, 0 < a → a < 43 → C26 a = cE bs y zI zJ a := by
    intro a h1 h2
    by_cases h3 : a < 41
    · rw [hw.1 a (by omega) (by omega)]; exact hT a h1 h3
    · exact hw.2 a (by omega)
  refine W.eq (g2 := F0 m 100 ls [.ref (bs + 41), .ref (bs + 0)]) rfl ?_
  refine W.widen (k := 42) (n := 3004) (by omega) (by omega) ?_
  refine p_F (K := RX9) (T := TX9) (N := 10) (ci := 9) (ty := .object "ClothMaker$Numbers") 0 8 tyX9 hx hb hts hown hin2 hK hP hz hS in_X9 tyX9_ok nmX9 rfl (by decide) hO (by decide) fl_136 rfl rfl (by decide +kernel) rfl rfl (Nat.le_of_ble_eq_true rfl) dX9_init_100 (fun H locs hP hz hS => ?_)
  obtain ⟨C27, eC27⟩ : ∃ z : CW, z = cset C26 0 (.inr (9, [.ref (bs + 1), .ref (bs + 7), .ref (bs + 11), .ref (bs + 16), .ref (bs + 22), .ref (bs + 28), .ref (bs + 34), .ref (bs + 38), .ref (bs + 41), .null])) := ⟨_, rfl⟩
  have hP : va_P D vwCl (wc bs 43 C27) H := by rw [eC27]; exact hP
  have hO : C27 0 = .inr (9, [.ref (bs + 1), .ref (bs + 7), .ref (bs + 11), .ref (bs + 16), .ref (bs + 22), .ref (bs + 28), .ref (bs + 34), .ref (bs + 38), .ref (bs + 41), .null]) := by rw [eC27]; exact cset_eq
  have hT : ∀ a, 0 < a → a < 43 → C27 a = cE bs y zI zJ a := fun a h1 h2 => by rw [eC27, cset_ne (by omega)]; exact hT a h1 h2
  refine lv_aload_n hx hb dX9_init_103 rfl (lv_at hl 0 rfl) ?_
  refine lv_bipush (v := (7 : Int32)) hx hb dX9_init_104 (by decide) ?_
  refine n_A (t0 := 0) (ty := .int) (N' := 7) (a0 := (7, .inl (fun _ => 0))) hx hb hts hK hP hz hS ac_int rfl rfl (fun _ => rfl) (fun _ => rfl) (by decide) rfl (by decide) (Nat.le_of_ble_eq_true rfl) (Nat.le_of_ble_eq_true rfl) dX9_init_106 (fun H hP hz hS => ?_)
  obtain ⟨C28, eC28⟩ : ∃ z : CW, z = cset C27 43 (.inl (y.1, 7, .inl (fun _ => 0))) := ⟨_, rfl⟩
  have hP : va_P D vwCl (wc bs 44 C28) H := by rw [eC28]; exact hP
  have hO : C28 0 = .inr (9, [.ref (bs + 1), .ref (bs + 7), .ref (bs + 11), .ref (bs + 16), .ref (bs + 22), .ref (bs + 28), .ref (bs + 34), .ref (bs + 38), .ref (bs + 41), .null]) := by rw [eC28, cset_ne (by decide)]; exact hO
  have hT : ∀ a, 0 < a → a < 44 → C28 a = cE bs y zI zJ a := by
    intro a h1 h2
    by_cases h3 : a < 43
    · rw [eC28, cset_ne (by omega)]; exact hT a h1 h3
    · have h4 : a = 43 := by omega
      subst h4
      rw [eC28, cset_eq]; exact tg_43.symm
  refine W.eq (g2 := F0 m 108 ls [.ref (bs + 43), .ref (bs + 0)]) rfl ?_
  refine W.widen (k := 43) (n := 3011) (by omega) (by omega) ?_
  refine p_F (K := RX9) (T := TX9) (N := 10) (ci := 9) (ty := .array .int) 0 9 tyX9 hx hb hts hown hin2 hK hP hz hS in_X9 tyX9_ok nmX9 rfl (by decide) hO (by decide) fl_96 rfl rfl (by decide +kernel) rfl rfl (Nat.le_of_ble_eq_true rfl) dX9_init_108 (fun H locs hP hz hS => ?_)
  obtain ⟨C29, eC29⟩ : ∃ z : CW, z = cset C28 0 (.inr (9, [.ref (bs + 1), .ref (bs + 7), .ref (bs + 11), .ref (bs + 16), .ref (bs + 22), .ref (bs + 28), .ref (bs + 34), .ref (bs + 38), .ref (bs + 41), .ref (bs + 43)])) := ⟨_, rfl⟩
  have hP : va_P D vwCl (wc bs 44 C29) H := by rw [eC29]; exact hP
  have hO : C29 0 = .inr (9, [.ref (bs + 1), .ref (bs + 7), .ref (bs + 11), .ref (bs + 16), .ref (bs + 22), .ref (bs + 28), .ref (bs + 34), .ref (bs + 38), .ref (bs + 41), .ref (bs + 43)]) := by rw [eC29]; exact cset_eq
  have hT : ∀ a, 0 < a → a < 44 → C29 a = cE bs y zI zJ a := fun a h1 h2 => by rw [eC29, cset_ne (by omega)]; exact hT a h1 h2
  have hP : va_P D vwCl (wl bs y zI zJ) H := by
    have h9 : wc bs 44 C29 = wc bs 44 (cE bs y zI zJ) := wc_congr (fun a h1 => by
      by_cases h2 : a = 0
      · rw [h2]; exact hO.trans tg_0.symm
      · exact hT a (by omega) h1)
    have h8 : wl bs y zI zJ = wc bs 44 (cE bs y zI zJ) := by unfold wl wc; rw [hy]
    rw [h8, ← h9]; exact hP
  have hcb : 44 ≤ y.2.2.2 := by rw [hy]; exact Nat.le_refl _
  unfold fX9_init at h
  refine lv_aload_n hx hb dX9_init_111 rfl (lv_at hl 0 rfl) ?_
  refine g_R (C := RX9) (T := TX9) (N := 10) (ci := 9) 0 3 16 hx hb hts hown hK hP in_X9 rfl hcb okF_0_3 rfc_0_3 fl_121 dX9_init_112 ?_
  refine lv_iconst (v := (3 : Int32)) hx hb dX9_init_115 (by decide) ?_
  refine lv_iconst (v := (3 : Int32)) hx hb dX9_init_116 (by decide) ?_
  refine lv_iconst (v := (2 : Int32)) hx hb dX9_init_117 (by decide) ?_
  refine lv_iconst (v := (2 : Int32)) hx hb dX9_init_118 (by decide) ?_
  obtain ⟨r1_, er1_, h⟩ := bd_s1 h
  refine c_VV (k := 16) (ci := 2) (As := [.int (3 : Int32), .int (3 : Int32), .int (2 : Int32), .int (2 : Int32)]) (rest := []) hx hb hml hown hts hK hN hL hP hS (cX2_shape_ l bs D y hcb n (3 : Int32) (3 : Int32) (2 : Int32) (2 : Int32) zI zJ r1_ er1_) ok_X2_shape ov_X2_shape ml_86 ⟨Nat.le_of_ble_eq_true rfl, Nat.le_of_ble_eq_true rfl⟩ rfl hcb kd_16 hl.1 rfl rfl (Nat.le_of_ble_eq_true rfl) ⟨Nat.le_of_ble_eq_true rfl, Nat.le_of_ble_eq_true rfl⟩ dX9_init_119 (fun H locs hP hS => ?_)
  refine lv_aload_n hx hb dX9_init_122 rfl (lv_at hl 0 rfl) ?_
  refine g_R (C := RX9) (T := TX9) (N := 10) (ci := 9) 0 7 38 hx hb hts hown hK hP in_X9 rfl hcb okF_0_7 rfc_0_7 fl_105 dX9_init_123 ?_
  refine lv_aload_n hx hb dX9_init_126 rfl (lv_at hl 0 rfl) ?_
  refine g_R (C := RX9) (T := TX9) (N := 10) (ci := 9) 0 0 1 hx hb hts hown hK hP in_X9 rfl hcb okF_0_0 rfc_0_0 fl_106 dX9_init_127 ?_
  refine c_VV (k := 38) (ci := 6) (As := [.ref (bs + 1)]) (rest := []) hx hb hml hown hts hK hN hL hP hS (cX6_begin_ l bs D y hcb n  r1_.1 r1_.2 r h) ok_X6_begin ov_X6_begin ml_70 ⟨Nat.le_of_ble_eq_true rfl, Nat.le_of_ble_eq_true rfl⟩ rfl hcb kd_38 hl.1 rfl rfl (Nat.le_of_ble_eq_true rfl) ⟨Nat.le_of_ble_eq_true rfl, Nat.le_of_ble_eq_true rfl⟩ dX9_init_130 (fun H locs hP hS => ?_)
  exact W.vret hx hb hr (fun t ht hW => ⟨⟨(), rfl, trivial, HB.at hP hK hN hL hS ht hW⟩, hS.F ht⟩) hS.2.2 dX9_init_133
