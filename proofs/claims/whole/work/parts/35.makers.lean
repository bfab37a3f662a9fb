theorem G_sub {p : Program} {l : Launch} {e : Env} {R : Room} {s : State} {m : MethodId} {args : Array Value} {below : List Frame} {meth : Method} {c : Code} {A : Nat → Prop} {H0 : Heap} {Q : State → Prop} {D : va_G} {nL cs sl : Nat} {pc : Nat} {lv : List (Nat × Value)} {st : List Value} {ws ws' : va_W} (is : List Nat) (hn : va_nd is = true) (h1 : is.filterMap (fun i => ws[i]?) = ws') (h2 : is.map (fun i => ws[i]?) = ws'.map some) (kk : G p l e R s m args below meth c A H0 Q D nL cs sl pc lv st ws') : G p l e R s m args below meth c A H0 Q D nL cs sl pc lv st ws :=
  fun Hh locs ls hP hD hS hl => kk Hh locs ls (hP.sub is h1) (hD.sub is hn h2) hS hl
theorem len_2 {u : List Nat} (h : u.length = 2) : ∃ a0 a1, u = [a0, a1] := by
  match u, h with
  | [a0, a1], _ => exact ⟨a0, a1, rfl⟩
theorem len_3 {u : List Nat} (h : u.length = 3) : ∃ a0 a1 a2, u = [a0, a1, a2] := by
  match u, h with
  | [a0, a1, a2], _ => exact ⟨a0, a1, a2, rfl⟩
theorem len_4 {u : List Nat} (h : u.length = 4) : ∃ a0 a1 a2 a3, u = [a0, a1, a2, a3] := by
  match u, h with
  | [a0, a1, a2, a3], _ => exact ⟨a0, a1, a2, a3, rfl⟩
theorem len_8 {u : List Nat} (h : u.length = 8) : ∃ a0 a1 a2 a3 a4 a5 a6 a7, u = [a0, a1, a2, a3, a4, a5, a6, a7] := by
  match u, h with
  | [a0, a1, a2, a3, a4, a5, a6, a7], _ => exact ⟨a0, a1, a2, a3, a4, a5, a6, a7, rfl⟩
theorem len_9 {u : List Nat} (h : u.length = 9) : ∃ a0 a1 a2 a3 a4 a5 a6 a7 a8, u = [a0, a1, a2, a3, a4, a5, a6, a7, a8] := by
  match u, h with
  | [a0, a1, a2, a3, a4, a5, a6, a7, a8], _ => exact ⟨a0, a1, a2, a3, a4, a5, a6, a7, a8, rfl⟩
theorem len_10 {u : List Nat} (h : u.length = 10) : ∃ a0 a1 a2 a3 a4 a5 a6 a7 a8 a9, u = [a0, a1, a2, a3, a4, a5, a6, a7, a8, a9] := by
  match u, h with
  | [a0, a1, a2, a3, a4, a5, a6, a7, a8, a9], _ => exact ⟨a0, a1, a2, a3, a4, a5, a6, a7, a8, a9, rfl⟩
theorem ck_X8_9 : Cond.classLink RX8 9 "CounterPlacer$Routine" ∈ GW := gall (ws := [Cond.classLink RX8 9 "CounterPlacer$Routine"]) (by decide +kernel) (by decide +kernel) _ (List.mem_cons_self)
theorem dv0 : ∀ j, j < 5 → defaultValue (tyX0 j) = vp_V [.null, .null, .null, .long 0, .long 0] j := by decide +kernel
theorem dv1 : ∀ j, j < 4 → defaultValue (tyX1 j) = vp_V [.null, .null, .null, .null] j := by decide +kernel
theorem dv2 : ∀ j, j < 9 → defaultValue (tyX2 j) = vp_V [.int 0, .null, .null, .null, .null, .null, .null, .null, .int 0] j := by decide +kernel
theorem dv3 : ∀ j, j < 13 → defaultValue (tyX3 j) = vp_V [.null, .null, .null, .null, .null, .null, .null, .null, .null, .null, .int 0, .int 0, .int 0] j := by decide +kernel
theorem dv4 : ∀ j, j < 4 → defaultValue (tyX4 j) = vp_V [.null, .null, .int 0, .long 0] j := by decide +kernel
theorem dv5 : ∀ j, j < 12 → defaultValue (tyX5 j) = vp_V [.null, .null, .null, .null, .null, .null, .null, .null, .null, .int 0, .int 0, .long 0] j := by decide +kernel
theorem dv6 : ∀ j, j < 9 → defaultValue (tyX6 j) = vp_V [.null, .null, .null, .int 0, .int 0, .int 0, .int 0, .int 0, .int 0] j := by decide +kernel
theorem dv7 : ∀ j, j < 11 → defaultValue (tyX7 j) = vp_V [.null, .null, .null, .null, .null, .null, .null, .null, .null, .int 0, .long 0] j := by decide +kernel
theorem ff_X2_15 : FF RX2 15 2 7 (.array .long) := ⟨RX2, TX2, 9, tyX2, rfl, by decide, uw2, gwm 412 (by decide +kernel) (by decide +kernel), tyX2_ok, nmX2, rfl, by decide +kernel⟩
theorem ff_X2_19 : FF RX2 19 2 0 .int := ⟨RX2, TX2, 9, tyX2, rfl, by decide, uw2, gwm 396 (by decide +kernel) (by decide +kernel), tyX2_ok, nmX2, rfl, by decide +kernel⟩
theorem ff_X2_23 : FF RX2 23 2 1 (.object "CounterPlacer$Shape") := ⟨RX2, TX2, 9, tyX2, rfl, by decide, uw2, gwm 398 (by decide +kernel) (by decide +kernel), tyX2_ok, nmX2, rfl, by decide +kernel⟩
theorem ff_X2_27 : FF RX2 27 2 2 (.object "CounterPlacer$Ways") := ⟨RX2, TX2, 9, tyX2, rfl, by decide, uw2, gwm 401 (by decide +kernel) (by decide +kernel), tyX2_ok, nmX2, rfl, by decide +kernel⟩
theorem ff_X2_31 : FF RX2 31 2 3 (.object "CounterPlacer$Tree") := ⟨RX2, TX2, 9, tyX2, rfl, by decide, uw2, gwm 404 (by decide +kernel) (by decide +kernel), tyX2_ok, nmX2, rfl, by decide +kernel⟩
theorem ff_X2_38 : FF RX2 38 2 4 (.object "CounterPlacer$Log") := ⟨RX2, TX2, 9, tyX2, rfl, by decide, uw2, gwm 406 (by decide +kernel) (by decide +kernel), tyX2_ok, nmX2, rfl, by decide +kernel⟩
theorem ff_X2_45 : FF RX2 45 2 5 (.object "CounterPlacer$Table") := ⟨RX2, TX2, 9, tyX2, rfl, by decide, uw2, gwm 407 (by decide +kernel) (by decide +kernel), tyX2_ok, nmX2, rfl, by decide +kernel⟩
theorem ff_X2_9 : FF RX2 9 2 6 (.array .int) := ⟨RX2, TX2, 9, tyX2, rfl, by decide, uw2, gwm 410 (by decide +kernel) (by decide +kernel), tyX2_ok, nmX2, rfl, by decide +kernel⟩
theorem ff_X8_11 : FF RX8 11 8 0 (.array (.object "CounterPlacer$Routine")) := ⟨RX8, TX8, 4, tyX8, rfl, by decide, uw8, gwm 150 (by decide +kernel) (by decide +kernel), tyX8_ok, nmX8, rfl, by decide +kernel⟩
theorem ff_X8_18 : FF RX8 18 8 1 (.object "CounterPlacer$Walk") := ⟨RX8, TX8, 4, tyX8, rfl, by decide, uw8, gwm 151 (by decide +kernel) (by decide +kernel), tyX8_ok, nmX8, rfl, by decide +kernel⟩
theorem ff_X8_25 : FF RX8 25 8 2 (.object "CounterPlacer$Mender") := ⟨RX8, TX8, 4, tyX8, rfl, by decide, uw8, gwm 152 (by decide +kernel) (by decide +kernel), tyX8_ok, nmX8, rfl, by decide +kernel⟩
theorem li_X2_37 : LI RX2 37 yX0_init cX0_init 1 0 := ⟨Or.inr (nwm 348 (by decide +kernel) (by decide +kernel)), gall (by decide +kernel) (by decide +kernel), rfl, by decide +kernel, by decide +kernel, by decide +kernel⟩
theorem li_X2_44 : LI RX2 44 yX4_init cX4_init 1 0 := ⟨Or.inr (nwm 375 (by decide +kernel) (by decide +kernel)), gall (by decide +kernel) (by decide +kernel), rfl, by decide +kernel, by decide +kernel, by decide +kernel⟩
theorem li_X2_51 : LI RX2 51 yX3_init cX3_init 1 0 := ⟨Or.inr (nwm 172 (by decide +kernel) (by decide +kernel)), gall (by decide +kernel) (by decide +kernel), rfl, by decide +kernel, by decide +kernel, by decide +kernel⟩
theorem li_X2_54 : LI RX2 54 yX7_init cX7_init 2 1 := ⟨Or.inl (gwm 247 (by decide +kernel) (by decide +kernel)), gall (by decide +kernel) (by decide +kernel), rfl, by decide +kernel, by decide +kernel, by decide +kernel⟩
theorem li_X2_59 : LI RX2 59 yX5_init cX5_init 2 1 := ⟨Or.inl (gwm 295 (by decide +kernel) (by decide +kernel)), gall (by decide +kernel) (by decide +kernel), rfl, by decide +kernel, by decide +kernel, by decide +kernel⟩
theorem li_X2_60 : LI RX2 60 yX2_init cX2_init 5 4 := ⟨Or.inl (gwm 342 (by decide +kernel) (by decide +kernel)), gall (by decide +kernel) (by decide +kernel), rfl, by decide +kernel, by decide +kernel, by decide +kernel⟩
theorem li_X8_17 : LI RX8 17 yX6_init cX6_init 1 0 := ⟨Or.inr (nwm 95 (by decide +kernel) (by decide +kernel)), gall (by decide +kernel) (by decide +kernel), rfl, by decide +kernel, by decide +kernel, by decide +kernel⟩
theorem li_X8_24 : LI RX8 24 yX1_init cX1_init 1 0 := ⟨Or.inr (nwm 133 (by decide +kernel) (by decide +kernel)), gall (by decide +kernel) (by decide +kernel), rfl, by decide +kernel, by decide +kernel, by decide +kernel⟩
theorem nw_X2_10 : ∀ w ∈ ([Cond.classLink RX2 10 RX2, Cond.instantiable RX2 9, Cond.initialized RX2] : List Cond), w ∈ GW := gall (by decide +kernel) (by decide +kernel)
theorem nw_X2_35 : ∀ w ∈ ([Cond.classLink RX2 35 RX0, Cond.instantiable RX0 5, Cond.initialized RX0] : List Cond), w ∈ GW := gall (by decide +kernel) (by decide +kernel)
theorem nw_X2_42 : ∀ w ∈ ([Cond.classLink RX2 42 RX4, Cond.instantiable RX4 4, Cond.initialized RX4] : List Cond), w ∈ GW := gall (by decide +kernel) (by decide +kernel)
theorem nw_X2_49 : ∀ w ∈ ([Cond.classLink RX2 49 RX3, Cond.instantiable RX3 13, Cond.initialized RX3] : List Cond), w ∈ GW := gall (by decide +kernel) (by decide +kernel)
theorem nw_X2_52 : ∀ w ∈ ([Cond.classLink RX2 52 RX7, Cond.instantiable RX7 11, Cond.initialized RX7] : List Cond), w ∈ GW := gall (by decide +kernel) (by decide +kernel)
theorem nw_X2_57 : ∀ w ∈ ([Cond.classLink RX2 57 RX5, Cond.instantiable RX5 12, Cond.initialized RX5] : List Cond), w ∈ GW := gall (by decide +kernel) (by decide +kernel)
theorem nw_X8_15 : ∀ w ∈ ([Cond.classLink RX8 15 RX6, Cond.instantiable RX6 9, Cond.initialized RX6] : List Cond), w ∈ GW := gall (by decide +kernel) (by decide +kernel)
theorem nw_X8_22 : ∀ w ∈ ([Cond.classLink RX8 22 RX1, Cond.instantiable RX1 4, Cond.initialized RX1] : List Cond), w ∈ GW := gall (by decide +kernel) (by decide +kernel)
theorem oi_X2 : ∀ w ∈ ([Cond.methodLink RX2 3 Lib.objectInit, Cond.instanceMethod Lib.objectInit, Cond.code Lib.objectInit ⟨#[0xb1]⟩ 1 none] : List Cond), w ∈ GW := gall (by decide +kernel) (by decide +kernel)
theorem oi_X8 : ∀ w ∈ ([Cond.methodLink RX8 3 Lib.objectInit, Cond.instanceMethod Lib.objectInit, Cond.code Lib.objectInit ⟨#[0xb1]⟩ 1 none] : List Cond), w ∈ GW := gall (by decide +kernel) (by decide +kernel)
theorem dX2_init_0 : decode cX2_init 0 = .ok (.aload_n 0, 1) := by decide +kernel
theorem dX2_init_1 : decode cX2_init 1 = .ok (.invokespecial 3, 3) := by decide +kernel
theorem dX2_init_4 : decode cX2_init 4 = .ok (.aload_n 0, 1) := by decide +kernel
theorem dX2_init_5 : decode cX2_init 5 = .ok (.bipush 40, 2) := by decide +kernel
theorem dX2_init_7 : decode cX2_init 7 = .ok (.newarray .int, 2) := by decide +kernel
theorem dX2_init_9 : decode cX2_init 9 = .ok (.putfield 9, 3) := by decide +kernel
theorem dX2_init_12 : decode cX2_init 12 = .ok (.aload_n 0, 1) := by decide +kernel
theorem dX2_init_13 : decode cX2_init 13 = .ok (.bipush 20, 2) := by decide +kernel
theorem dX2_init_15 : decode cX2_init 15 = .ok (.newarray .long, 2) := by decide +kernel
theorem dX2_init_17 : decode cX2_init 17 = .ok (.putfield 15, 3) := by decide +kernel
theorem dX2_init_20 : decode cX2_init 20 = .ok (.aload_n 0, 1) := by decide +kernel
theorem dX2_init_21 : decode cX2_init 21 = .ok (.iload_n 1, 1) := by decide +kernel
theorem dX2_init_22 : decode cX2_init 22 = .ok (.putfield 19, 3) := by decide +kernel
theorem dX2_init_25 : decode cX2_init 25 = .ok (.aload_n 0, 1) := by decide +kernel
theorem dX2_init_26 : decode cX2_init 26 = .ok (.aload_n 2, 1) := by decide +kernel
theorem dX2_init_27 : decode cX2_init 27 = .ok (.putfield 23, 3) := by decide +kernel
theorem dX2_init_30 : decode cX2_init 30 = .ok (.aload_n 0, 1) := by decide +kernel
theorem dX2_init_31 : decode cX2_init 31 = .ok (.aload_n 3, 1) := by decide +kernel
theorem dX2_init_32 : decode cX2_init 32 = .ok (.putfield 27, 3) := by decide +kernel
theorem dX2_init_35 : decode cX2_init 35 = .ok (.aload_n 0, 1) := by decide +kernel
theorem dX2_init_36 : decode cX2_init 36 = .ok (.aload 4, 2) := by decide +kernel
theorem dX2_init_38 : decode cX2_init 38 = .ok (.putfield 31, 3) := by decide +kernel
theorem dX2_init_41 : decode cX2_init 41 = .ok (.aload_n 0, 1) := by decide +kernel
theorem dX2_init_42 : decode cX2_init 42 = .ok (.new 35, 3) := by decide +kernel
theorem dX2_init_45 : decode cX2_init 45 = .ok (.dup, 1) := by decide +kernel
theorem dX2_init_46 : decode cX2_init 46 = .ok (.invokespecial 37, 3) := by decide +kernel
theorem dX2_init_49 : decode cX2_init 49 = .ok (.putfield 38, 3) := by decide +kernel
theorem dX2_init_52 : decode cX2_init 52 = .ok (.aload_n 0, 1) := by decide +kernel
theorem dX2_init_53 : decode cX2_init 53 = .ok (.new 42, 3) := by decide +kernel
theorem dX2_init_56 : decode cX2_init 56 = .ok (.dup, 1) := by decide +kernel
theorem dX2_init_57 : decode cX2_init 57 = .ok (.invokespecial 44, 3) := by decide +kernel
theorem dX2_init_60 : decode cX2_init 60 = .ok (.putfield 45, 3) := by decide +kernel
theorem dX2_init_63 : decode cX2_init 63 = .ok (.return_, 1) := by decide +kernel
def Fn2 (nn : Int32) (sh : Nat) (wa : Nat) (tr : Nat) (u : List Nat) : List Value := [.int nn, .ref sh, .ref wa, .ref tr, .ref (u.getD 2 0), .ref (u.getD 6 0), .ref (u.getD 0 0), .ref (u.getD 1 0), .int 0]
def Cn2 (K4 : kQ) (u : List Nat) : va_W := [((u.getD 0 0), zc K4 0 40), ((u.getD 1 0), zc K4 1 20), ((u.getD 2 0), .inr (0, [.ref (u.getD 3 0), .ref (u.getD 4 0), .ref (u.getD 5 0), .long 0, .long 0])), ((u.getD 3 0), zc K4 1 40), ((u.getD 4 0), zc K4 1 40), ((u.getD 5 0), zc K4 1 20), ((u.getD 6 0), .inr (4, [.ref (u.getD 7 0), .ref (u.getD 8 0), .int 0, .long 0])), ((u.getD 7 0), zc K4 1 16), ((u.getD 8 0), zc K4 1 16)]
set_option maxRecDepth 100000 in
set_option maxHeartbeats 4000000 in
theorem k_X2_init (l : Launch) (nn : Int32) (sh : Nat) (wa : Nat) (tr : Nat) : KI l yX2_init cX2_init 5 2 9 201 32 [.int nn, .ref sh, .ref wa, .ref tr] 2 [.int 0, .null, .null, .null, .null, .null, .null, .null, .int 0] 9 (Fn2 nn sh wa tr) Cn2 := by
  refine KI.ofG (by decide) rfl (fun _ => Nat.le_of_ble_eq_true rfl) ?_
  intro p e s m args below meth c D K4 h0 hC hin hret hao
  refine G_aload_n hC 0 dX2_init_0 rfl ?_
  refine G_obj hC oi_X2 ⟨Nat.le_of_ble_eq_true rfl, Nat.le_of_ble_eq_true rfl⟩ dX2_init_1 ?_
  refine G_aload_n hC 0 dX2_init_4 rfl ?_
  refine G_bipush (v := 40) hC dX2_init_5 (by decide) ?_
  refine G_newI (N' := 40) hC ac_I (by decide) (by decide) (by decide) ⟨Nat.le_of_ble_eq_true rfl, Nat.le_of_ble_eq_true rfl⟩ dX2_init_7 (fun q1 => ?_)
  refine G_eq (ws' := [(h0, .inr (2, [.int 0, .null, .null, .null, .null, .null, .null, .null, .int 0])), (q1, zc K4 0 40)]) rfl ?_
  refine G_putF hC ff_X2_9 (fun C T N h => by cases h; rfl) hin rfl rfl (Nat.le_of_ble_eq_true rfl) dX2_init_9 ?_
  refine G_eq (ws' := [(h0, .inr (2, [.int 0, .null, .null, .null, .null, .null, .ref q1, .null, .int 0])), (q1, zc K4 0 40)]) rfl ?_
  refine G_aload_n hC 0 dX2_init_12 rfl ?_
  refine G_bipush (v := 20) hC dX2_init_13 (by decide) ?_
  refine G_newJ (N' := 20) hC ac_J (by decide) (by decide) (by decide) ⟨Nat.le_of_ble_eq_true rfl, Nat.le_of_ble_eq_true rfl⟩ dX2_init_15 (fun q2 => ?_)
  refine G_eq (ws' := [(h0, .inr (2, [.int 0, .null, .null, .null, .null, .null, .ref q1, .null, .int 0])), (q1, zc K4 0 40), (q2, zc K4 1 20)]) rfl ?_
  refine G_putF hC ff_X2_15 (fun C T N h => by cases h; rfl) hin rfl rfl (Nat.le_of_ble_eq_true rfl) dX2_init_17 ?_
  refine G_eq (ws' := [(h0, .inr (2, [.int 0, .null, .null, .null, .null, .null, .ref q1, .ref q2, .int 0])), (q1, zc K4 0 40), (q2, zc K4 1 20)]) rfl ?_
  refine G_aload_n hC 0 dX2_init_20 rfl ?_
  refine G_iload_n hC 1 dX2_init_21 rfl ?_
  refine G_putF hC ff_X2_19 (fun C T N h => by cases h; rfl) hin rfl rfl (Nat.le_of_ble_eq_true rfl) dX2_init_22 ?_
  refine G_eq (ws' := [(h0, .inr (2, [.int nn, .null, .null, .null, .null, .null, .ref q1, .ref q2, .int 0])), (q1, zc K4 0 40), (q2, zc K4 1 20)]) rfl ?_
  refine G_aload_n hC 0 dX2_init_25 rfl ?_
  refine G_aload_n hC 2 dX2_init_26 rfl ?_
  refine G_putF hC ff_X2_23 (fun C T N h => by cases h; rfl) hin rfl rfl (Nat.le_of_ble_eq_true rfl) dX2_init_27 ?_
  refine G_eq (ws' := [(h0, .inr (2, [.int nn, .ref sh, .null, .null, .null, .null, .ref q1, .ref q2, .int 0])), (q1, zc K4 0 40), (q2, zc K4 1 20)]) rfl ?_
  refine G_aload_n hC 0 dX2_init_30 rfl ?_
  refine G_aload_n hC 3 dX2_init_31 rfl ?_
  refine G_putF hC ff_X2_27 (fun C T N h => by cases h; rfl) hin rfl rfl (Nat.le_of_ble_eq_true rfl) dX2_init_32 ?_
  refine G_eq (ws' := [(h0, .inr (2, [.int nn, .ref sh, .ref wa, .null, .null, .null, .ref q1, .ref q2, .int 0])), (q1, zc K4 0 40), (q2, zc K4 1 20)]) rfl ?_
  refine G_aload_n hC 0 dX2_init_35 rfl ?_
  refine G_aload hC 4 dX2_init_36 rfl ?_
  refine G_putF hC ff_X2_31 (fun C T N h => by cases h; rfl) hin rfl rfl (Nat.le_of_ble_eq_true rfl) dX2_init_38 ?_
  refine G_eq (ws' := [(h0, .inr (2, [.int nn, .ref sh, .ref wa, .ref tr, .null, .null, .ref q1, .ref q2, .int 0])), (q1, zc K4 0 40), (q2, zc K4 1 20)]) rfl ?_
  refine G_aload_n hC 0 dX2_init_41 rfl ?_
  refine G_new (ci := 0) (fs := [.null, .null, .null, .long 0, .long 0]) hC rfl uw0 tyX0_ok nw_X2_35 dv0 ⟨Nat.le_of_ble_eq_true rfl, Nat.le_of_ble_eq_true rfl⟩ dX2_init_42 (fun q3 => ?_)
  refine G_eq (ws' := [(h0, .inr (2, [.int nn, .ref sh, .ref wa, .ref tr, .null, .null, .ref q1, .ref q2, .int 0])), (q1, zc K4 0 40), (q2, zc K4 1 20), (q3, .inr (0, [.null, .null, .null, .long 0, .long 0]))]) rfl ?_
  refine G_dup hC dX2_init_45 rfl ?_
  refine G_eq (ws' := [(h0, .inr (2, [.int nn, .ref sh, .ref wa, .ref tr, .null, .null, .ref q1, .ref q2, .int 0])), (q1, zc K4 0 40), (q2, zc K4 1 20)] ++ [(q3, .inr (0, [.null, .null, .null, .long 0, .long 0]))]) rfl ?_
  refine G_ctor (ws := [(h0, .inr (2, [.int nn, .ref sh, .ref wa, .ref tr, .null, .null, .ref q1, .ref q2, .int 0])), (q1, zc K4 0 40), (q2, zc K4 1 20)]) (av := []) (st := [.ref q3, .ref h0]) hC hao (k_X0_init l) li_X2_37 ⟨Nat.le_of_ble_eq_true rfl, Nat.le_of_ble_eq_true rfl⟩ rfl (Nat.le_of_ble_eq_true rfl) ⟨Nat.le_of_ble_eq_true rfl, Nat.le_of_ble_eq_true rfl⟩ dX2_init_46 (fun u4 hu4 => ?_)
  obtain ⟨x4_0, x4_1, x4_2, rfl⟩ := len_3 hu4
  refine G_eq (ws' := [(h0, .inr (2, [.int nn, .ref sh, .ref wa, .ref tr, .null, .null, .ref q1, .ref q2, .int 0])), (q1, zc K4 0 40), (q2, zc K4 1 20), (q3, .inr (0, [.ref x4_0, .ref x4_1, .ref x4_2, .long 0, .long 0])), (x4_0, zc K4 1 40), (x4_1, zc K4 1 40), (x4_2, zc K4 1 20)]) rfl ?_
  refine G_putF hC ff_X2_38 (fun C T N h => by cases h; rfl) hin rfl rfl (Nat.le_of_ble_eq_true rfl) dX2_init_49 ?_
  refine G_eq (ws' := [(h0, .inr (2, [.int nn, .ref sh, .ref wa, .ref tr, .ref q3, .null, .ref q1, .ref q2, .int 0])), (q1, zc K4 0 40), (q2, zc K4 1 20), (q3, .inr (0, [.ref x4_0, .ref x4_1, .ref x4_2, .long 0, .long 0])), (x4_0, zc K4 1 40), (x4_1, zc K4 1 40), (x4_2, zc K4 1 20)]) rfl ?_
  refine G_aload_n hC 0 dX2_init_52 rfl ?_
  refine G_new (ci := 4) (fs := [.null, .null, .int 0, .long 0]) hC rfl uw4 tyX4_ok nw_X2_42 dv4 ⟨Nat.le_of_ble_eq_true rfl, Nat.le_of_ble_eq_true rfl⟩ dX2_init_53 (fun q5 => ?_)
  refine G_eq (ws' := [(h0, .inr (2, [.int nn, .ref sh, .ref wa, .ref tr, .ref q3, .null, .ref q1, .ref q2, .int 0])), (q1, zc K4 0 40), (q2, zc K4 1 20), (q3, .inr (0, [.ref x4_0, .ref x4_1, .ref x4_2, .long 0, .long 0])), (x4_0, zc K4 1 40), (x4_1, zc K4 1 40), (x4_2, zc K4 1 20), (q5, .inr (4, [.null, .null, .int 0, .long 0]))]) rfl ?_
  refine G_dup hC dX2_init_56 rfl ?_
  refine G_eq (ws' := [(h0, .inr (2, [.int nn, .ref sh, .ref wa, .ref tr, .ref q3, .null, .ref q1, .ref q2, .int 0])), (q1, zc K4 0 40), (q2, zc K4 1 20), (q3, .inr (0, [.ref x4_0, .ref x4_1, .ref x4_2, .long 0, .long 0])), (x4_0, zc K4 1 40), (x4_1, zc K4 1 40), (x4_2, zc K4 1 20)] ++ [(q5, .inr (4, [.null, .null, .int 0, .long 0]))]) rfl ?_
  refine G_ctor (ws := [(h0, .inr (2, [.int nn, .ref sh, .ref wa, .ref tr, .ref q3, .null, .ref q1, .ref q2, .int 0])), (q1, zc K4 0 40), (q2, zc K4 1 20), (q3, .inr (0, [.ref x4_0, .ref x4_1, .ref x4_2, .long 0, .long 0])), (x4_0, zc K4 1 40), (x4_1, zc K4 1 40), (x4_2, zc K4 1 20)]) (av := []) (st := [.ref q5, .ref h0]) hC hao (k_X4_init l) li_X2_44 ⟨Nat.le_of_ble_eq_true rfl, Nat.le_of_ble_eq_true rfl⟩ rfl (Nat.le_of_ble_eq_true rfl) ⟨Nat.le_of_ble_eq_true rfl, Nat.le_of_ble_eq_true rfl⟩ dX2_init_57 (fun u6 hu6 => ?_)
  obtain ⟨x6_0, x6_1, rfl⟩ := len_2 hu6
  refine G_eq (ws' := [(h0, .inr (2, [.int nn, .ref sh, .ref wa, .ref tr, .ref q3, .null, .ref q1, .ref q2, .int 0])), (q1, zc K4 0 40), (q2, zc K4 1 20), (q3, .inr (0, [.ref x4_0, .ref x4_1, .ref x4_2, .long 0, .long 0])), (x4_0, zc K4 1 40), (x4_1, zc K4 1 40), (x4_2, zc K4 1 20), (q5, .inr (4, [.ref x6_0, .ref x6_1, .int 0, .long 0])), (x6_0, zc K4 1 16), (x6_1, zc K4 1 16)]) rfl ?_
  refine G_putF hC ff_X2_45 (fun C T N h => by cases h; rfl) hin rfl rfl (Nat.le_of_ble_eq_true rfl) dX2_init_60 ?_
  refine G_eq (ws' := [(h0, .inr (2, [.int nn, .ref sh, .ref wa, .ref tr, .ref q3, .ref q5, .ref q1, .ref q2, .int 0])), (q1, zc K4 0 40), (q2, zc K4 1 20), (q3, .inr (0, [.ref x4_0, .ref x4_1, .ref x4_2, .long 0, .long 0])), (x4_0, zc K4 1 40), (x4_1, zc K4 1 40), (x4_2, zc K4 1 20), (q5, .inr (4, [.ref x6_0, .ref x6_1, .int 0, .long 0])), (x6_0, zc K4 1 16), (x6_1, zc K4 1 16)]) rfl ?_
  exact G_vret (cs := 9) (sl := 201) hC [q1, q2, q3, x4_0, x4_1, x4_2, q5, x6_0, x6_1] hret dX2_init_63 rfl (fun t a b => ⟨a, b⟩)
theorem dX8_init_0 : decode cX8_init 0 = .ok (.aload_n 0, 1) := by decide +kernel
theorem dX8_init_1 : decode cX8_init 1 = .ok (.invokespecial 3, 3) := by decide +kernel
theorem dX8_init_4 : decode cX8_init 4 = .ok (.aload_n 0, 1) := by decide +kernel
theorem dX8_init_5 : decode cX8_init 5 = .ok (.bipush 8, 2) := by decide +kernel
theorem dX8_init_7 : decode cX8_init 7 = .ok (.anewarray 9, 3) := by decide +kernel
theorem dX8_init_10 : decode cX8_init 10 = .ok (.putfield 11, 3) := by decide +kernel
theorem dX8_init_13 : decode cX8_init 13 = .ok (.aload_n 0, 1) := by decide +kernel
theorem dX8_init_14 : decode cX8_init 14 = .ok (.new 15, 3) := by decide +kernel
theorem dX8_init_17 : decode cX8_init 17 = .ok (.dup, 1) := by decide +kernel
theorem dX8_init_18 : decode cX8_init 18 = .ok (.invokespecial 17, 3) := by decide +kernel
theorem dX8_init_21 : decode cX8_init 21 = .ok (.putfield 18, 3) := by decide +kernel
theorem dX8_init_24 : decode cX8_init 24 = .ok (.aload_n 0, 1) := by decide +kernel
theorem dX8_init_25 : decode cX8_init 25 = .ok (.new 22, 3) := by decide +kernel
theorem dX8_init_28 : decode cX8_init 28 = .ok (.dup, 1) := by decide +kernel
theorem dX8_init_29 : decode cX8_init 29 = .ok (.invokespecial 24, 3) := by decide +kernel
theorem dX8_init_32 : decode cX8_init 32 = .ok (.putfield 25, 3) := by decide +kernel
theorem dX8_init_35 : decode cX8_init 35 = .ok (.return_, 1) := by decide +kernel
def Fn8 (u : List Nat) : List Value := [.ref (u.getD 0 0), .ref (u.getD 1 0), .ref (u.getD 5 0), .int 0]
def Cn8 (K4 : kQ) (u : List Nat) : va_W := [((u.getD 0 0), zc K4 3 8), ((u.getD 1 0), .inr (6, [.ref (u.getD 2 0), .ref (u.getD 3 0), .ref (u.getD 4 0), .int 0, .int 0, .int 0, .int 0, .int 0, .int 0])), ((u.getD 2 0), zc K4 3 30), ((u.getD 3 0), zc K4 0 30), ((u.getD 4 0), zc K4 1 30), ((u.getD 5 0), .inr (1, [.ref (u.getD 6 0), .ref (u.getD 7 0), .ref (u.getD 8 0), .ref (u.getD 9 0)])), ((u.getD 6 0), zc K4 0 61), ((u.getD 7 0), zc K4 0 21), ((u.getD 8 0), zc K4 0 21), ((u.getD 9 0), zc K4 0 21)]
set_option maxRecDepth 100000 in
set_option maxHeartbeats 4000000 in
theorem k_X8_init (l : Launch) : KI l yX8_init cX8_init 1 2 10 235 32 [] 8 [.null, .null, .null, .int 0] 10 (Fn8) Cn8 := by
  refine KI.ofG (by decide) rfl (fun _ => Nat.le_of_ble_eq_true rfl) ?_
  intro p e s m args below meth c D K4 h0 hC hin hret hao
  refine G_aload_n hC 0 dX8_init_0 rfl ?_
  refine G_obj hC oi_X8 ⟨Nat.le_of_ble_eq_true rfl, Nat.le_of_ble_eq_true rfl⟩ dX8_init_1 ?_
  refine G_aload_n hC 0 dX8_init_4 rfl ?_
  refine G_bipush (v := 8) hC dX8_init_5 (by decide) ?_
  refine G_newQ (N' := 8) hC ck_X8_9 hao (by decide) (by decide) (by decide) ⟨Nat.le_of_ble_eq_true rfl, Nat.le_of_ble_eq_true rfl⟩ dX8_init_7 (fun q1 => ?_)
  refine G_eq (ws' := [(h0, .inr (8, [.null, .null, .null, .int 0])), (q1, zc K4 3 8)]) rfl ?_
  refine G_putF hC ff_X8_11 (fun C T N h => by cases h; rfl) hin rfl rfl (Nat.le_of_ble_eq_true rfl) dX8_init_10 ?_
  refine G_eq (ws' := [(h0, .inr (8, [.ref q1, .null, .null, .int 0])), (q1, zc K4 3 8)]) rfl ?_
  refine G_aload_n hC 0 dX8_init_13 rfl ?_
  refine G_new (ci := 6) (fs := [.null, .null, .null, .int 0, .int 0, .int 0, .int 0, .int 0, .int 0]) hC rfl uw6 tyX6_ok nw_X8_15 dv6 ⟨Nat.le_of_ble_eq_true rfl, Nat.le_of_ble_eq_true rfl⟩ dX8_init_14 (fun q2 => ?_)
  refine G_eq (ws' := [(h0, .inr (8, [.ref q1, .null, .null, .int 0])), (q1, zc K4 3 8), (q2, .inr (6, [.null, .null, .null, .int 0, .int 0, .int 0, .int 0, .int 0, .int 0]))]) rfl ?_
  refine G_dup hC dX8_init_17 rfl ?_
  refine G_eq (ws' := [(h0, .inr (8, [.ref q1, .null, .null, .int 0])), (q1, zc K4 3 8)] ++ [(q2, .inr (6, [.null, .null, .null, .int 0, .int 0, .int 0, .int 0, .int 0, .int 0]))]) rfl ?_
  refine G_ctor (ws := [(h0, .inr (8, [.ref q1, .null, .null, .int 0])), (q1, zc K4 3 8)]) (av := []) (st := [.ref q2, .ref h0]) hC hao (k_X6_init l) li_X8_17 ⟨Nat.le_of_ble_eq_true rfl, Nat.le_of_ble_eq_true rfl⟩ rfl (Nat.le_of_ble_eq_true rfl) ⟨Nat.le_of_ble_eq_true rfl, Nat.le_of_ble_eq_true rfl⟩ dX8_init_18 (fun u3 hu3 => ?_)
  obtain ⟨x3_0, x3_1, x3_2, rfl⟩ := len_3 hu3
  refine G_eq (ws' := [(h0, .inr (8, [.ref q1, .null, .null, .int 0])), (q1, zc K4 3 8), (q2, .inr (6, [.ref x3_0, .ref x3_1, .ref x3_2, .int 0, .int 0, .int 0, .int 0, .int 0, .int 0])), (x3_0, zc K4 3 30), (x3_1, zc K4 0 30), (x3_2, zc K4 1 30)]) rfl ?_
  refine G_putF hC ff_X8_18 (fun C T N h => by cases h; rfl) hin rfl rfl (Nat.le_of_ble_eq_true rfl) dX8_init_21 ?_
  refine G_eq (ws' := [(h0, .inr (8, [.ref q1, .ref q2, .null, .int 0])), (q1, zc K4 3 8), (q2, .inr (6, [.ref x3_0, .ref x3_1, .ref x3_2, .int 0, .int 0, .int 0, .int 0, .int 0, .int 0])), (x3_0, zc K4 3 30), (x3_1, zc K4 0 30), (x3_2, zc K4 1 30)]) rfl ?_
  refine G_aload_n hC 0 dX8_init_24 rfl ?_
  refine G_new (ci := 1) (fs := [.null, .null, .null, .null]) hC rfl uw1 tyX1_ok nw_X8_22 dv1 ⟨Nat.le_of_ble_eq_true rfl, Nat.le_of_ble_eq_true rfl⟩ dX8_init_25 (fun q4 => ?_)
  refine G_eq (ws' := [(h0, .inr (8, [.ref q1, .ref q2, .null, .int 0])), (q1, zc K4 3 8), (q2, .inr (6, [.ref x3_0, .ref x3_1, .ref x3_2, .int 0, .int 0, .int 0, .int 0, .int 0, .int 0])), (x3_0, zc K4 3 30), (x3_1, zc K4 0 30), (x3_2, zc K4 1 30), (q4, .inr (1, [.null, .null, .null, .null]))]) rfl ?_
  refine G_dup hC dX8_init_28 rfl ?_
  refine G_eq (ws' := [(h0, .inr (8, [.ref q1, .ref q2, .null, .int 0])), (q1, zc K4 3 8), (q2, .inr (6, [.ref x3_0, .ref x3_1, .ref x3_2, .int 0, .int 0, .int 0, .int 0, .int 0, .int 0])), (x3_0, zc K4 3 30), (x3_1, zc K4 0 30), (x3_2, zc K4 1 30)] ++ [(q4, .inr (1, [.null, .null, .null, .null]))]) rfl ?_
  refine G_ctor (ws := [(h0, .inr (8, [.ref q1, .ref q2, .null, .int 0])), (q1, zc K4 3 8), (q2, .inr (6, [.ref x3_0, .ref x3_1, .ref x3_2, .int 0, .int 0, .int 0, .int 0, .int 0, .int 0])), (x3_0, zc K4 3 30), (x3_1, zc K4 0 30), (x3_2, zc K4 1 30)]) (av := []) (st := [.ref q4, .ref h0]) hC hao (k_X1_init l) li_X8_24 ⟨Nat.le_of_ble_eq_true rfl, Nat.le_of_ble_eq_true rfl⟩ rfl (Nat.le_of_ble_eq_true rfl) ⟨Nat.le_of_ble_eq_true rfl, Nat.le_of_ble_eq_true rfl⟩ dX8_init_29 (fun u5 hu5 => ?_)
  obtain ⟨x5_0, x5_1, x5_2, x5_3, rfl⟩ := len_4 hu5
  refine G_eq (ws' := [(h0, .inr (8, [.ref q1, .ref q2, .null, .int 0])), (q1, zc K4 3 8), (q2, .inr (6, [.ref x3_0, .ref x3_1, .ref x3_2, .int 0, .int 0, .int 0, .int 0, .int 0, .int 0])), (x3_0, zc K4 3 30), (x3_1, zc K4 0 30), (x3_2, zc K4 1 30), (q4, .inr (1, [.ref x5_0, .ref x5_1, .ref x5_2, .ref x5_3])), (x5_0, zc K4 0 61), (x5_1, zc K4 0 21), (x5_2, zc K4 0 21), (x5_3, zc K4 0 21)]) rfl ?_
  refine G_putF hC ff_X8_25 (fun C T N h => by cases h; rfl) hin rfl rfl (Nat.le_of_ble_eq_true rfl) dX8_init_32 ?_
  refine G_eq (ws' := [(h0, .inr (8, [.ref q1, .ref q2, .ref q4, .int 0])), (q1, zc K4 3 8), (q2, .inr (6, [.ref x3_0, .ref x3_1, .ref x3_2, .int 0, .int 0, .int 0, .int 0, .int 0, .int 0])), (x3_0, zc K4 3 30), (x3_1, zc K4 0 30), (x3_2, zc K4 1 30), (q4, .inr (1, [.ref x5_0, .ref x5_1, .ref x5_2, .ref x5_3])), (x5_0, zc K4 0 61), (x5_1, zc K4 0 21), (x5_2, zc K4 0 21), (x5_3, zc K4 0 21)]) rfl ?_
  exact G_vret (cs := 10) (sl := 235) hC [q1, q2, x3_0, x3_1, x3_2, q4, x5_0, x5_1, x5_2, x5_3] hret dX8_init_35 rfl (fun t a b => ⟨a, b⟩)
theorem dX2_made_0 : decode cX2_made 0 = .ok (.new 49, 3) := by decide +kernel
theorem dX2_made_3 : decode cX2_made 3 = .ok (.dup, 1) := by decide +kernel
theorem dX2_made_4 : decode cX2_made 4 = .ok (.invokespecial 51, 3) := by decide +kernel
theorem dX2_made_7 : decode cX2_made 7 = .ok (.astore_n 1, 1) := by decide +kernel
theorem dX2_made_8 : decode cX2_made 8 = .ok (.new 10, 3) := by decide +kernel
theorem dX2_made_11 : decode cX2_made 11 = .ok (.dup, 1) := by decide +kernel
theorem dX2_made_12 : decode cX2_made 12 = .ok (.iload_n 0, 1) := by decide +kernel
theorem dX2_made_13 : decode cX2_made 13 = .ok (.aload_n 1, 1) := by decide +kernel
theorem dX2_made_14 : decode cX2_made 14 = .ok (.new 52, 3) := by decide +kernel
theorem dX2_made_17 : decode cX2_made 17 = .ok (.dup, 1) := by decide +kernel
theorem dX2_made_18 : decode cX2_made 18 = .ok (.aload_n 1, 1) := by decide +kernel
theorem dX2_made_19 : decode cX2_made 19 = .ok (.invokespecial 54, 3) := by decide +kernel
theorem dX2_made_22 : decode cX2_made 22 = .ok (.new 57, 3) := by decide +kernel
theorem dX2_made_25 : decode cX2_made 25 = .ok (.dup, 1) := by decide +kernel
theorem dX2_made_26 : decode cX2_made 26 = .ok (.aload_n 1, 1) := by decide +kernel
theorem dX2_made_27 : decode cX2_made 27 = .ok (.invokespecial 59, 3) := by decide +kernel
theorem dX2_made_30 : decode cX2_made 30 = .ok (.invokespecial 60, 3) := by decide +kernel
theorem dX2_made_33 : decode cX2_made 33 = .ok (.areturn, 1) := by decide +kernel
def Cmd (K4 : kQ) (nn : Int32) (u : List Nat) : va_W := [((u.getD 0 0), .inr (2, [.int nn, .ref (u.getD 1 0), .ref (u.getD 2 0), .ref (u.getD 3 0), .ref (u.getD 4 0), .ref (u.getD 5 0), .ref (u.getD 6 0), .ref (u.getD 7 0), .int 0])), ((u.getD 1 0), .inr (3, [.ref (u.getD 8 0), .ref (u.getD 9 0), .ref (u.getD 10 0), .ref (u.getD 11 0), .ref (u.getD 12 0), .ref (u.getD 13 0), .ref (u.getD 14 0), .ref (u.getD 15 0), .ref (u.getD 16 0), .ref (u.getD 17 0), .int 0, .int 0, .int 0])), ((u.getD 2 0), .inr (7, [.ref (u.getD 1 0), .ref (u.getD 18 0), .ref (u.getD 19 0), .ref (u.getD 20 0), .ref (u.getD 21 0), .ref (u.getD 22 0), .ref (u.getD 23 0), .ref (u.getD 24 0), .ref (u.getD 25 0), .int 0, .long 0])), ((u.getD 3 0), .inr (5, [.ref (u.getD 1 0), .ref (u.getD 26 0), .ref (u.getD 27 0), .ref (u.getD 28 0), .ref (u.getD 29 0), .ref (u.getD 30 0), .ref (u.getD 31 0), .ref (u.getD 32 0), .ref (u.getD 33 0), .int 0, .int 0, .long 0])), ((u.getD 4 0), .inr (0, [.ref (u.getD 34 0), .ref (u.getD 35 0), .ref (u.getD 36 0), .long 0, .long 0])), ((u.getD 5 0), .inr (4, [.ref (u.getD 37 0), .ref (u.getD 38 0), .int 0, .long 0])), ((u.getD 6 0), zc K4 0 40), ((u.getD 7 0), zc K4 1 20), ((u.getD 8 0), zc K4 0 20), ((u.getD 9 0), zc K4 0 20), ((u.getD 10 0), zc K4 0 20), ((u.getD 11 0), zc K4 0 20), ((u.getD 12 0), zc K4 0 80), ((u.getD 13 0), zc K4 0 61), ((u.getD 14 0), zc K4 0 61), ((u.getD 15 0), zc K4 0 40), ((u.getD 16 0), zc K4 2 40), ((u.getD 17 0), zc K4 2 20), ((u.getD 18 0), zc K4 1 20), ((u.getD 19 0), zc K4 1 20), ((u.getD 20 0), zc K4 1 20), ((u.getD 21 0), zc K4 1 40), ((u.getD 22 0), zc K4 1 40), ((u.getD 23 0), zc K4 0 20), ((u.getD 24 0), zc K4 0 20), ((u.getD 25 0), zc K4 0 20), ((u.getD 26 0), zc K4 0 40), ((u.getD 27 0), zc K4 2 61), ((u.getD 28 0), zc K4 0 21), ((u.getD 29 0), zc K4 0 21), ((u.getD 30 0), zc K4 0 21), ((u.getD 31 0), zc K4 2 21), ((u.getD 32 0), zc K4 1 21), ((u.getD 33 0), zc K4 1 61), ((u.getD 34 0), zc K4 1 40), ((u.getD 35 0), zc K4 1 40), ((u.getD 36 0), zc K4 1 20), ((u.getD 37 0), zc K4 1 16), ((u.getD 38 0), zc K4 1 16)]
set_option maxRecDepth 100000 in
set_option maxHeartbeats 4000000 in
theorem k_made (l : Launch) (nn : Int32) (D : va_G) (K4 : kQ) (sz : Nat) : Met l yX2_made (.code yX2_made cX2_made 2 (some (.object "CounterPlacer$Routine")) :: GW) ({ frames := 3, cells := 39, slots := 1095, locals := 56 }) (va_Pc [.int nn] (PkB D K4 [] sz)) (va_Qr (fun u : List Nat => u.length = 39) (fun u a t => a = u.getD 0 0 ∧ va_P D vwCl (Cmd K4 nn u) t.heap ∧ va_D (va_A ([] : va_W) sz) (Cmd K4 nn u)) (va_A ([] : va_W) sz)) 39 1095 (va_A ([] : va_W) sz) := by
  refine Met.ofW (cc := cX2_made) (maxL := 2) (ret := (some (.object "CounterPlacer$Routine"))) (by decide) rfl ?_
  intro p e s m args below meth c s₁ B hml hv
  obtain ⟨rfl, rfl, hP, hK, hN, hD, hao⟩ := hv
  have hts := atoms_spec (ws := (.code yX2_made cX2_made 2 (some (.object "CounterPlacer$Routine")) :: GW)) B.pre
  have hown : s.vm.findClass RX2 = some m.cls := findClass_of_methodNamed B.named
  have hl := lv_entry [.int nn] (n := 2) (Nat.le_of_ble_eq_true rfl)
  rw [lg_entry_eq]
  have hC : Cx p s m [Value.int nn].toArray c (va_A ([] : va_W) s.heap.size) s.heap D K4 2 RX2 cX2_made := ⟨B.exec, B.bytes, hml, hown, fun w hw => hts w (List.mem_cons_of_mem _ hw), hK, hN, fun q h => Or.inr h⟩
  have hret : meth.sig.returnType = (some (.object "CounterPlacer$Routine")) ∧ meth.locks = false := ⟨B.returns, B.notSynchronized⟩
  suffices hG : G p l e ({ frames := 3, cells := 39, slots := 1095, locals := 56 }) s m [Value.int nn].toArray below meth c (va_A ([] : va_W) s.heap.size) s.heap (MQ below (va_Qr (fun u : List Nat => u.length = 39) (fun u a t => a = u.getD 0 0 ∧ va_P D vwCl (Cmd K4 nn u) t.heap ∧ va_D (va_A ([] : va_W) s.heap.size) (Cmd K4 nn u)) (va_A ([] : va_W) s.heap.size)) [Value.int nn].toArray s 39 1095 (va_A ([] : va_W) s.heap.size)) D 2 0 0 0 [(0, .int nn)] [] [] by
    exact hG s.heap [] _ hP hD.self va_S.rf hl
  refine G_new (ci := 3) (fs := [.null, .null, .null, .null, .null, .null, .null, .null, .null, .null, .int 0, .int 0, .int 0]) hC rfl uw3 tyX3_ok nw_X2_49 dv3 ⟨Nat.le_of_ble_eq_true rfl, Nat.le_of_ble_eq_true rfl⟩ dX2_made_0 (fun q1 => ?_)
  refine G_eq (ws' := [(q1, .inr (3, [.null, .null, .null, .null, .null, .null, .null, .null, .null, .null, .int 0, .int 0, .int 0]))]) rfl ?_
  refine G_dup hC dX2_made_3 rfl ?_
  refine G_eq (ws' := [] ++ [(q1, .inr (3, [.null, .null, .null, .null, .null, .null, .null, .null, .null, .null, .int 0, .int 0, .int 0]))]) rfl ?_
  refine G_ctor (ws := []) (av := []) (st := [.ref q1]) hC hao (k_X3_init l) li_X2_51 ⟨Nat.le_of_ble_eq_true rfl, Nat.le_of_ble_eq_true rfl⟩ rfl (Nat.le_of_ble_eq_true rfl) ⟨Nat.le_of_ble_eq_true rfl, Nat.le_of_ble_eq_true rfl⟩ dX2_made_4 (fun u2 hu2 => ?_)
  obtain ⟨x2_0, x2_1, x2_2, x2_3, x2_4, x2_5, x2_6, x2_7, x2_8, x2_9, rfl⟩ := len_10 hu2
  refine G_eq (ws' := [(q1, .inr (3, [.ref x2_0, .ref x2_1, .ref x2_2, .ref x2_3, .ref x2_4, .ref x2_5, .ref x2_6, .ref x2_7, .ref x2_8, .ref x2_9, .int 0, .int 0, .int 0])), (x2_0, zc K4 0 20), (x2_1, zc K4 0 20), (x2_2, zc K4 0 20), (x2_3, zc K4 0 20), (x2_4, zc K4 0 80), (x2_5, zc K4 0 61), (x2_6, zc K4 0 61), (x2_7, zc K4 0 40), (x2_8, zc K4 2 40), (x2_9, zc K4 2 20)]) rfl ?_
  refine G_astore_n (lv' := [(1, .ref q1), (0, .int nn)]) hC dX2_made_7 (Nat.le_of_ble_eq_true rfl) rfl ?_
  refine G_new (ci := 2) (fs := [.int 0, .null, .null, .null, .null, .null, .null, .null, .int 0]) hC rfl uw2 tyX2_ok nw_X2_10 dv2 ⟨Nat.le_of_ble_eq_true rfl, Nat.le_of_ble_eq_true rfl⟩ dX2_made_8 (fun q3 => ?_)
  refine G_eq (ws' := [(q1, .inr (3, [.ref x2_0, .ref x2_1, .ref x2_2, .ref x2_3, .ref x2_4, .ref x2_5, .ref x2_6, .ref x2_7, .ref x2_8, .ref x2_9, .int 0, .int 0, .int 0])), (x2_0, zc K4 0 20), (x2_1, zc K4 0 20), (x2_2, zc K4 0 20), (x2_3, zc K4 0 20), (x2_4, zc K4 0 80), (x2_5, zc K4 0 61), (x2_6, zc K4 0 61), (x2_7, zc K4 0 40), (x2_8, zc K4 2 40), (x2_9, zc K4 2 20), (q3, .inr (2, [.int 0, .null, .null, .null, .null, .null, .null, .null, .int 0]))]) rfl ?_
  refine G_dup hC dX2_made_11 rfl ?_
  refine G_iload_n hC 1 dX2_made_12 rfl ?_
  refine G_aload_n hC 0 dX2_made_13 rfl ?_
  refine G_new (ci := 7) (fs := [.null, .null, .null, .null, .null, .null, .null, .null, .null, .int 0, .long 0]) hC rfl uw7 tyX7_ok nw_X2_52 dv7 ⟨Nat.le_of_ble_eq_true rfl, Nat.le_of_ble_eq_true rfl⟩ dX2_made_14 (fun q4 => ?_)
  refine G_eq (ws' := [(q1, .inr (3, [.ref x2_0, .ref x2_1, .ref x2_2, .ref x2_3, .ref x2_4, .ref x2_5, .ref x2_6, .ref x2_7, .ref x2_8, .ref x2_9, .int 0, .int 0, .int 0])), (x2_0, zc K4 0 20), (x2_1, zc K4 0 20), (x2_2, zc K4 0 20), (x2_3, zc K4 0 20), (x2_4, zc K4 0 80), (x2_5, zc K4 0 61), (x2_6, zc K4 0 61), (x2_7, zc K4 0 40), (x2_8, zc K4 2 40), (x2_9, zc K4 2 20), (q3, .inr (2, [.int 0, .null, .null, .null, .null, .null, .null, .null, .int 0])), (q4, .inr (7, [.null, .null, .null, .null, .null, .null, .null, .null, .null, .int 0, .long 0]))]) rfl ?_
  refine G_dup hC dX2_made_17 rfl ?_
  refine G_aload_n hC 0 dX2_made_18 rfl ?_
  refine G_eq (ws' := [(q1, .inr (3, [.ref x2_0, .ref x2_1, .ref x2_2, .ref x2_3, .ref x2_4, .ref x2_5, .ref x2_6, .ref x2_7, .ref x2_8, .ref x2_9, .int 0, .int 0, .int 0])), (x2_0, zc K4 0 20), (x2_1, zc K4 0 20), (x2_2, zc K4 0 20), (x2_3, zc K4 0 20), (x2_4, zc K4 0 80), (x2_5, zc K4 0 61), (x2_6, zc K4 0 61), (x2_7, zc K4 0 40), (x2_8, zc K4 2 40), (x2_9, zc K4 2 20), (q3, .inr (2, [.int 0, .null, .null, .null, .null, .null, .null, .null, .int 0]))] ++ [(q4, .inr (7, [.null, .null, .null, .null, .null, .null, .null, .null, .null, .int 0, .long 0]))]) rfl ?_
  refine G_ctor (ws := [(q1, .inr (3, [.ref x2_0, .ref x2_1, .ref x2_2, .ref x2_3, .ref x2_4, .ref x2_5, .ref x2_6, .ref x2_7, .ref x2_8, .ref x2_9, .int 0, .int 0, .int 0])), (x2_0, zc K4 0 20), (x2_1, zc K4 0 20), (x2_2, zc K4 0 20), (x2_3, zc K4 0 20), (x2_4, zc K4 0 80), (x2_5, zc K4 0 61), (x2_6, zc K4 0 61), (x2_7, zc K4 0 40), (x2_8, zc K4 2 40), (x2_9, zc K4 2 20), (q3, .inr (2, [.int 0, .null, .null, .null, .null, .null, .null, .null, .int 0]))]) (av := [.ref q1]) (st := [.ref q4, .ref q1, .int nn, .ref q3, .ref q3]) hC hao (k_X7_init l q1) li_X2_54 ⟨Nat.le_of_ble_eq_true rfl, Nat.le_of_ble_eq_true rfl⟩ rfl (Nat.le_of_ble_eq_true rfl) ⟨Nat.le_of_ble_eq_true rfl, Nat.le_of_ble_eq_true rfl⟩ dX2_made_19 (fun u5 hu5 => ?_)
  obtain ⟨x5_0, x5_1, x5_2, x5_3, x5_4, x5_5, x5_6, x5_7, rfl⟩ := len_8 hu5
  refine G_eq (ws' := [(q1, .inr (3, [.ref x2_0, .ref x2_1, .ref x2_2, .ref x2_3, .ref x2_4, .ref x2_5, .ref x2_6, .ref x2_7, .ref x2_8, .ref x2_9, .int 0, .int 0, .int 0])), (x2_0, zc K4 0 20), (x2_1, zc K4 0 20), (x2_2, zc K4 0 20), (x2_3, zc K4 0 20), (x2_4, zc K4 0 80), (x2_5, zc K4 0 61), (x2_6, zc K4 0 61), (x2_7, zc K4 0 40), (x2_8, zc K4 2 40), (x2_9, zc K4 2 20), (q3, .inr (2, [.int 0, .null, .null, .null, .null, .null, .null, .null, .int 0])), (q4, .inr (7, [.ref q1, .ref x5_0, .ref x5_1, .ref x5_2, .ref x5_3, .ref x5_4, .ref x5_5, .ref x5_6, .ref x5_7, .int 0, .long 0])), (x5_0, zc K4 1 20), (x5_1, zc K4 1 20), (x5_2, zc K4 1 20), (x5_3, zc K4 1 40), (x5_4, zc K4 1 40), (x5_5, zc K4 0 20), (x5_6, zc K4 0 20), (x5_7, zc K4 0 20)]) rfl ?_
  refine G_new (ci := 5) (fs := [.null, .null, .null, .null, .null, .null, .null, .null, .null, .int 0, .int 0, .long 0]) hC rfl uw5 tyX5_ok nw_X2_57 dv5 ⟨Nat.le_of_ble_eq_true rfl, Nat.le_of_ble_eq_true rfl⟩ dX2_made_22 (fun q6 => ?_)
  refine G_eq (ws' := [(q1, .inr (3, [.ref x2_0, .ref x2_1, .ref x2_2, .ref x2_3, .ref x2_4, .ref x2_5, .ref x2_6, .ref x2_7, .ref x2_8, .ref x2_9, .int 0, .int 0, .int 0])), (x2_0, zc K4 0 20), (x2_1, zc K4 0 20), (x2_2, zc K4 0 20), (x2_3, zc K4 0 20), (x2_4, zc K4 0 80), (x2_5, zc K4 0 61), (x2_6, zc K4 0 61), (x2_7, zc K4 0 40), (x2_8, zc K4 2 40), (x2_9, zc K4 2 20), (q3, .inr (2, [.int 0, .null, .null, .null, .null, .null, .null, .null, .int 0])), (q4, .inr (7, [.ref q1, .ref x5_0, .ref x5_1, .ref x5_2, .ref x5_3, .ref x5_4, .ref x5_5, .ref x5_6, .ref x5_7, .int 0, .long 0])), (x5_0, zc K4 1 20), (x5_1, zc K4 1 20), (x5_2, zc K4 1 20), (x5_3, zc K4 1 40), (x5_4, zc K4 1 40), (x5_5, zc K4 0 20), (x5_6, zc K4 0 20), (x5_7, zc K4 0 20), (q6, .inr (5, [.null, .null, .null, .null, .null, .null, .null, .null, .null, .int 0, .int 0, .long 0]))]) rfl ?_
  refine G_dup hC dX2_made_25 rfl ?_
  refine G_aload_n hC 0 dX2_made_26 rfl ?_
  refine G_eq (ws' := [(q1, .inr (3, [.ref x2_0, .ref x2_1, .ref x2_2, .ref x2_3, .ref x2_4, .ref x2_5, .ref x2_6, .ref x2_7, .ref x2_8, .ref x2_9, .int 0, .int 0, .int 0])), (x2_0, zc K4 0 20), (x2_1, zc K4 0 20), (x2_2, zc K4 0 20), (x2_3, zc K4 0 20), (x2_4, zc K4 0 80), (x2_5, zc K4 0 61), (x2_6, zc K4 0 61), (x2_7, zc K4 0 40), (x2_8, zc K4 2 40), (x2_9, zc K4 2 20), (q3, .inr (2, [.int 0, .null, .null, .null, .null, .null, .null, .null, .int 0])), (q4, .inr (7, [.ref q1, .ref x5_0, .ref x5_1, .ref x5_2, .ref x5_3, .ref x5_4, .ref x5_5, .ref x5_6, .ref x5_7, .int 0, .long 0])), (x5_0, zc K4 1 20), (x5_1, zc K4 1 20), (x5_2, zc K4 1 20), (x5_3, zc K4 1 40), (x5_4, zc K4 1 40), (x5_5, zc K4 0 20), (x5_6, zc K4 0 20), (x5_7, zc K4 0 20)] ++ [(q6, .inr (5, [.null, .null, .null, .null, .null, .null, .null, .null, .null, .int 0, .int 0, .long 0]))]) rfl ?_
  refine G_ctor (ws := [(q1, .inr (3, [.ref x2_0, .ref x2_1, .ref x2_2, .ref x2_3, .ref x2_4, .ref x2_5, .ref x2_6, .ref x2_7, .ref x2_8, .ref x2_9, .int 0, .int 0, .int 0])), (x2_0, zc K4 0 20), (x2_1, zc K4 0 20), (x2_2, zc K4 0 20), (x2_3, zc K4 0 20), (x2_4, zc K4 0 80), (x2_5, zc K4 0 61), (x2_6, zc K4 0 61), (x2_7, zc K4 0 40), (x2_8, zc K4 2 40), (x2_9, zc K4 2 20), (q3, .inr (2, [.int 0, .null, .null, .null, .null, .null, .null, .null, .int 0])), (q4, .inr (7, [.ref q1, .ref x5_0, .ref x5_1, .ref x5_2, .ref x5_3, .ref x5_4, .ref x5_5, .ref x5_6, .ref x5_7, .int 0, .long 0])), (x5_0, zc K4 1 20), (x5_1, zc K4 1 20), (x5_2, zc K4 1 20), (x5_3, zc K4 1 40), (x5_4, zc K4 1 40), (x5_5, zc K4 0 20), (x5_6, zc K4 0 20), (x5_7, zc K4 0 20)]) (av := [.ref q1]) (st := [.ref q6, .ref q4, .ref q1, .int nn, .ref q3, .ref q3]) hC hao (k_X5_init l q1) li_X2_59 ⟨Nat.le_of_ble_eq_true rfl, Nat.le_of_ble_eq_true rfl⟩ rfl (Nat.le_of_ble_eq_true rfl) ⟨Nat.le_of_ble_eq_true rfl, Nat.le_of_ble_eq_true rfl⟩ dX2_made_27 (fun u7 hu7 => ?_)
  obtain ⟨x7_0, x7_1, x7_2, x7_3, x7_4, x7_5, x7_6, x7_7, rfl⟩ := len_8 hu7
  refine G_eq (ws' := [(q1, .inr (3, [.ref x2_0, .ref x2_1, .ref x2_2, .ref x2_3, .ref x2_4, .ref x2_5, .ref x2_6, .ref x2_7, .ref x2_8, .ref x2_9, .int 0, .int 0, .int 0])), (x2_0, zc K4 0 20), (x2_1, zc K4 0 20), (x2_2, zc K4 0 20), (x2_3, zc K4 0 20), (x2_4, zc K4 0 80), (x2_5, zc K4 0 61), (x2_6, zc K4 0 61), (x2_7, zc K4 0 40), (x2_8, zc K4 2 40), (x2_9, zc K4 2 20), (q3, .inr (2, [.int 0, .null, .null, .null, .null, .null, .null, .null, .int 0])), (q4, .inr (7, [.ref q1, .ref x5_0, .ref x5_1, .ref x5_2, .ref x5_3, .ref x5_4, .ref x5_5, .ref x5_6, .ref x5_7, .int 0, .long 0])), (x5_0, zc K4 1 20), (x5_1, zc K4 1 20), (x5_2, zc K4 1 20), (x5_3, zc K4 1 40), (x5_4, zc K4 1 40), (x5_5, zc K4 0 20), (x5_6, zc K4 0 20), (x5_7, zc K4 0 20), (q6, .inr (5, [.ref q1, .ref x7_0, .ref x7_1, .ref x7_2, .ref x7_3, .ref x7_4, .ref x7_5, .ref x7_6, .ref x7_7, .int 0, .int 0, .long 0])), (x7_0, zc K4 0 40), (x7_1, zc K4 2 61), (x7_2, zc K4 0 21), (x7_3, zc K4 0 21), (x7_4, zc K4 0 21), (x7_5, zc K4 2 21), (x7_6, zc K4 1 21), (x7_7, zc K4 1 61)]) rfl ?_
  refine G_sub (ws' := [(q1, .inr (3, [.ref x2_0, .ref x2_1, .ref x2_2, .ref x2_3, .ref x2_4, .ref x2_5, .ref x2_6, .ref x2_7, .ref x2_8, .ref x2_9, .int 0, .int 0, .int 0])), (x2_0, zc K4 0 20), (x2_1, zc K4 0 20), (x2_2, zc K4 0 20), (x2_3, zc K4 0 20), (x2_4, zc K4 0 80), (x2_5, zc K4 0 61), (x2_6, zc K4 0 61), (x2_7, zc K4 0 40), (x2_8, zc K4 2 40), (x2_9, zc K4 2 20), (q4, .inr (7, [.ref q1, .ref x5_0, .ref x5_1, .ref x5_2, .ref x5_3, .ref x5_4, .ref x5_5, .ref x5_6, .ref x5_7, .int 0, .long 0])), (x5_0, zc K4 1 20), (x5_1, zc K4 1 20), (x5_2, zc K4 1 20), (x5_3, zc K4 1 40), (x5_4, zc K4 1 40), (x5_5, zc K4 0 20), (x5_6, zc K4 0 20), (x5_7, zc K4 0 20), (q6, .inr (5, [.ref q1, .ref x7_0, .ref x7_1, .ref x7_2, .ref x7_3, .ref x7_4, .ref x7_5, .ref x7_6, .ref x7_7, .int 0, .int 0, .long 0])), (x7_0, zc K4 0 40), (x7_1, zc K4 2 61), (x7_2, zc K4 0 21), (x7_3, zc K4 0 21), (x7_4, zc K4 0 21), (x7_5, zc K4 2 21), (x7_6, zc K4 1 21), (x7_7, zc K4 1 61), (q3, .inr (2, [.int 0, .null, .null, .null, .null, .null, .null, .null, .int 0]))]) [0, 1, 2, 3, 4, 5, 6, 7, 8, 9, 10, 12, 13, 14, 15, 16, 17, 18, 19, 20, 21, 22, 23, 24, 25, 26, 27, 28, 29, 11] (by decide) rfl rfl ?_
  refine G_eq (ws' := [(q1, .inr (3, [.ref x2_0, .ref x2_1, .ref x2_2, .ref x2_3, .ref x2_4, .ref x2_5, .ref x2_6, .ref x2_7, .ref x2_8, .ref x2_9, .int 0, .int 0, .int 0])), (x2_0, zc K4 0 20), (x2_1, zc K4 0 20), (x2_2, zc K4 0 20), (x2_3, zc K4 0 20), (x2_4, zc K4 0 80), (x2_5, zc K4 0 61), (x2_6, zc K4 0 61), (x2_7, zc K4 0 40), (x2_8, zc K4 2 40), (x2_9, zc K4 2 20), (q4, .inr (7, [.ref q1, .ref x5_0, .ref x5_1, .ref x5_2, .ref x5_3, .ref x5_4, .ref x5_5, .ref x5_6, .ref x5_7, .int 0, .long 0])), (x5_0, zc K4 1 20), (x5_1, zc K4 1 20), (x5_2, zc K4 1 20), (x5_3, zc K4 1 40), (x5_4, zc K4 1 40), (x5_5, zc K4 0 20), (x5_6, zc K4 0 20), (x5_7, zc K4 0 20), (q6, .inr (5, [.ref q1, .ref x7_0, .ref x7_1, .ref x7_2, .ref x7_3, .ref x7_4, .ref x7_5, .ref x7_6, .ref x7_7, .int 0, .int 0, .long 0])), (x7_0, zc K4 0 40), (x7_1, zc K4 2 61), (x7_2, zc K4 0 21), (x7_3, zc K4 0 21), (x7_4, zc K4 0 21), (x7_5, zc K4 2 21), (x7_6, zc K4 1 21), (x7_7, zc K4 1 61)] ++ [(q3, .inr (2, [.int 0, .null, .null, .null, .null, .null, .null, .null, .int 0]))]) rfl ?_
  refine G_ctor (ws := [(q1, .inr (3, [.ref x2_0, .ref x2_1, .ref x2_2, .ref x2_3, .ref x2_4, .ref x2_5, .ref x2_6, .ref x2_7, .ref x2_8, .ref x2_9, .int 0, .int 0, .int 0])), (x2_0, zc K4 0 20), (x2_1, zc K4 0 20), (x2_2, zc K4 0 20), (x2_3, zc K4 0 20), (x2_4, zc K4 0 80), (x2_5, zc K4 0 61), (x2_6, zc K4 0 61), (x2_7, zc K4 0 40), (x2_8, zc K4 2 40), (x2_9, zc K4 2 20), (q4, .inr (7, [.ref q1, .ref x5_0, .ref x5_1, .ref x5_2, .ref x5_3, .ref x5_4, .ref x5_5, .ref x5_6, .ref x5_7, .int 0, .long 0])), (x5_0, zc K4 1 20), (x5_1, zc K4 1 20), (x5_2, zc K4 1 20), (x5_3, zc K4 1 40), (x5_4, zc K4 1 40), (x5_5, zc K4 0 20), (x5_6, zc K4 0 20), (x5_7, zc K4 0 20), (q6, .inr (5, [.ref q1, .ref x7_0, .ref x7_1, .ref x7_2, .ref x7_3, .ref x7_4, .ref x7_5, .ref x7_6, .ref x7_7, .int 0, .int 0, .long 0])), (x7_0, zc K4 0 40), (x7_1, zc K4 2 61), (x7_2, zc K4 0 21), (x7_3, zc K4 0 21), (x7_4, zc K4 0 21), (x7_5, zc K4 2 21), (x7_6, zc K4 1 21), (x7_7, zc K4 1 61)]) (av := [.int nn, .ref q1, .ref q4, .ref q6]) (st := [.ref q3]) hC hao (k_X2_init l nn q1 q4 q6) li_X2_60 ⟨Nat.le_of_ble_eq_true rfl, Nat.le_of_ble_eq_true rfl⟩ rfl (Nat.le_of_ble_eq_true rfl) ⟨Nat.le_of_ble_eq_true rfl, Nat.le_of_ble_eq_true rfl⟩ dX2_made_30 (fun u8 hu8 => ?_)
  obtain ⟨x8_0, x8_1, x8_2, x8_3, x8_4, x8_5, x8_6, x8_7, x8_8, rfl⟩ := len_9 hu8
  refine G_eq (ws' := [(q1, .inr (3, [.ref x2_0, .ref x2_1, .ref x2_2, .ref x2_3, .ref x2_4, .ref x2_5, .ref x2_6, .ref x2_7, .ref x2_8, .ref x2_9, .int 0, .int 0, .int 0])), (x2_0, zc K4 0 20), (x2_1, zc K4 0 20), (x2_2, zc K4 0 20), (x2_3, zc K4 0 20), (x2_4, zc K4 0 80), (x2_5, zc K4 0 61), (x2_6, zc K4 0 61), (x2_7, zc K4 0 40), (x2_8, zc K4 2 40), (x2_9, zc K4 2 20), (q4, .inr (7, [.ref q1, .ref x5_0, .ref x5_1, .ref x5_2, .ref x5_3, .ref x5_4, .ref x5_5, .ref x5_6, .ref x5_7, .int 0, .long 0])), (x5_0, zc K4 1 20), (x5_1, zc K4 1 20), (x5_2, zc K4 1 20), (x5_3, zc K4 1 40), (x5_4, zc K4 1 40), (x5_5, zc K4 0 20), (x5_6, zc K4 0 20), (x5_7, zc K4 0 20), (q6, .inr (5, [.ref q1, .ref x7_0, .ref x7_1, .ref x7_2, .ref x7_3, .ref x7_4, .ref x7_5, .ref x7_6, .ref x7_7, .int 0, .int 0, .long 0])), (x7_0, zc K4 0 40), (x7_1, zc K4 2 61), (x7_2, zc K4 0 21), (x7_3, zc K4 0 21), (x7_4, zc K4 0 21), (x7_5, zc K4 2 21), (x7_6, zc K4 1 21), (x7_7, zc K4 1 61), (q3, .inr (2, [.int nn, .ref q1, .ref q4, .ref q6, .ref x8_2, .ref x8_6, .ref x8_0, .ref x8_1, .int 0])), (x8_0, zc K4 0 40), (x8_1, zc K4 1 20), (x8_2, .inr (0, [.ref x8_3, .ref x8_4, .ref x8_5, .long 0, .long 0])), (x8_3, zc K4 1 40), (x8_4, zc K4 1 40), (x8_5, zc K4 1 20), (x8_6, .inr (4, [.ref x8_7, .ref x8_8, .int 0, .long 0])), (x8_7, zc K4 1 16), (x8_8, zc K4 1 16)]) rfl ?_
  exact G_rret (cs := 39) (sl := 1095) hC [q3, q1, q4, q6, x8_2, x8_6, x8_0, x8_1, x2_0, x2_1, x2_2, x2_3, x2_4, x2_5, x2_6, x2_7, x2_8, x2_9, x5_0, x5_1, x5_2, x5_3, x5_4, x5_5, x5_6, x5_7, x7_0, x7_1, x7_2, x7_3, x7_4, x7_5, x7_6, x7_7, x8_3, x8_4, x8_5, x8_7, x8_8] hret dX2_made_33 rfl (fun t a b => ⟨rfl, a.sub [29, 0, 11, 20, 32, 36, 30, 31, 1, 2, 3, 4, 5, 6, 7, 8, 9, 10, 12, 13, 14, 15, 16, 17, 18, 19, 21, 22, 23, 24, 25, 26, 27, 28, 33, 34, 35, 37, 38] rfl, b.sub [29, 0, 11, 20, 32, 36, 30, 31, 1, 2, 3, 4, 5, 6, 7, 8, 9, 10, 12, 13, 14, 15, 16, 17, 18, 19, 21, 22, 23, 24, 25, 26, 27, 28, 33, 34, 35, 37, 38] (by decide) rfl⟩)
