theorem dX8_routineAt_0 : decode cX8_routineAt 0 = .ok (.iload_n 1, 1) := by decide +kernel
theorem dX8_routineAt_1 : decode cX8_routineAt 1 = .ok (.ifCond .lt 12, 3) := by decide +kernel
theorem dX8_routineAt_4 : decode cX8_routineAt 4 = .ok (.iload_n 1, 1) := by decide +kernel
theorem dX8_routineAt_5 : decode cX8_routineAt 5 = .ok (.aload_n 0, 1) := by decide +kernel
theorem dX8_routineAt_6 : decode cX8_routineAt 6 = .ok (.getfield 11, 3) := by decide +kernel
theorem dX8_routineAt_9 : decode cX8_routineAt 9 = .ok (.arraylength, 1) := by decide +kernel
theorem dX8_routineAt_10 : decode cX8_routineAt 10 = .ok (.if_icmp .lt 7, 3) := by decide +kernel
theorem dX8_routineAt_13 : decode cX8_routineAt 13 = .ok (.aconst_null, 1) := by decide +kernel
theorem dX8_routineAt_14 : decode cX8_routineAt 14 = .ok (.goto 9, 3) := by decide +kernel
theorem dX8_routineAt_17 : decode cX8_routineAt 17 = .ok (.aload_n 0, 1) := by decide +kernel
theorem dX8_routineAt_18 : decode cX8_routineAt 18 = .ok (.getfield 11, 3) := by decide +kernel
theorem dX8_routineAt_21 : decode cX8_routineAt 21 = .ok (.iload_n 1, 1) := by decide +kernel
theorem dX8_routineAt_22 : decode cX8_routineAt 22 = .ok (.aaload, 1) := by decide +kernel
theorem dX8_routineAt_23 : decode cX8_routineAt 23 = .ok (.areturn, 1) := by decide +kernel
def f_X8_routineAt (a1 : Int32) (H : Hp) : Option (Option Nat × Hp) := if a1 < 0 then some (none, H) else if a1 < 8 then gd a1 8 (vl (gR H 1 1 (Int32.toNatClampNeg a1)) (fun (o3 : Option Nat) => some (o3, H))) else some (none, H)
set_option maxRecDepth 100000 in
set_option maxHeartbeats 4000000 in
theorem s_X8_routineAt {p : Program} {l : Launch} {e : Env} {s : State} {m : MethodId} {args : Array Value} {below : List Frame} {meth : Method} {c : Code} {A : Nat → Prop} {D : va_G} {K4 : kQ} {ad : Nat → Nat → Nat} {nr : Nat} {a1 : Int32} {H : Hp} {res : Option Nat × Hp} (hC : Cx p s m args c A s.heap D K4 2 RX8 cX8_routineAt) (hret : meth.sig.returnType = (some (.object "CounterPlacer$Routine")) ∧ meth.locks = false) (h : f_X8_routineAt a1 H = some res) : V p l e ({ frames := 0, cells := 0, slots := 0, locals := 0 }) s m args below meth c A s.heap (QQ below args s A D K4 ad nr res) D K4 ad nr 2 0 [(0, .ref (ad 1 0)), (1, .int a1)] [] H := by
  unfold f_X8_routineAt at h
  refine V_iload_n hC 1 dX8_routineAt_0 rfl ?_
  refine V_if_lt (tgt := 13) hC dX8_routineAt_1 (by decide) (fun c1 => ?_) (fun c1 => ?_)
  · replace h := it_pos c1 h
    refine V_null hC dX8_routineAt_13 ?_
    refine V_goto (tgt := 23) hC dX8_routineAt_14 (by decide) ?_
    exact V_qret (o := none) hC hret dX8_routineAt_23 h
  · replace h := it_neg c1 h
    refine V_iload_n hC 1 dX8_routineAt_4 rfl ?_
    refine V_aload_n hC 0 dX8_routineAt_5 rfl ?_
    refine V_getR (g := 1) (k := 0) (g' := 1) (k' := 1) hC 8 0 fl_X8_11 rfl rfl rfl rfl dX8_routineAt_6 ?_
    refine V_alen (g := 1) (k := 1) (v := 8) hC rfl rfl (by decide) (by decide) dX8_routineAt_9 ?_
    refine V_icmp_lt (tgt := 17) hC dX8_routineAt_10 (by decide) (fun c2 => ?_) (fun c2 => ?_)
    · replace h := it_pos c2 h
      refine V_aload_n hC 0 dX8_routineAt_17 rfl ?_
      refine V_getR (g := 1) (k := 0) (g' := 1) (k' := 1) hC 8 0 fl_X8_11 rfl rfl rfl rfl dX8_routineAt_18 ?_
      refine V_iload_n hC 1 dX8_routineAt_21 rfl ?_
      obtain ⟨hi, h⟩ := gd_some h
      refine V_aald (g := 1) (k := 1) hC rfl rfl hi dX8_routineAt_22 ?_
      refine V_vlQ h (fun o3 h => ?_)
      exact V_qret (o := o3) hC hret dX8_routineAt_23 h
    · replace h := it_neg c2 h
      refine V_null hC dX8_routineAt_13 ?_
      refine V_goto (tgt := 23) hC dX8_routineAt_14 (by decide) ?_
      exact V_qret (o := none) hC hret dX8_routineAt_23 h
theorem c_X8_routineAt (l : Launch) {nr : Nat} {a1 : Int32} {H : Hp} {x : Option Nat} {H' : Hp} (h : f_X8_routineAt a1 H = some (x, H')) : CQ l nr yX8_routineAt cX8_routineAt 2 (some (.object "CounterPlacer$Routine")) 0 0 (fun ad => [.ref (ad 1 0), .int a1]) H x H' := by
  intro D K4 ad sz
  refine Met.ofV (by decide) (Nat.le_of_ble_eq_true rfl) ?_
  intro p e s m args below meth c hC hret hsz
  subst hsz
  exact s_X8_routineAt hC hret h
theorem dX8_isCount_0 : decode cX8_isCount 0 = .ok (.iload_n 0, 1) := by decide +kernel
theorem dX8_isCount_1 : decode cX8_isCount 1 = .ok (.ifCond .lt 13, 3) := by decide +kernel
theorem dX8_isCount_4 : decode cX8_isCount 4 = .ok (.iload_n 0, 1) := by decide +kernel
theorem dX8_isCount_5 : decode cX8_isCount 5 = .ok (.ldc 200, 2) := by decide +kernel
theorem dX8_isCount_7 : decode cX8_isCount 7 = .ok (.if_icmp .gt 7, 3) := by decide +kernel
theorem dX8_isCount_10 : decode cX8_isCount 10 = .ok (.iconst 1, 1) := by decide +kernel
theorem dX8_isCount_11 : decode cX8_isCount 11 = .ok (.goto 4, 3) := by decide +kernel
theorem dX8_isCount_14 : decode cX8_isCount 14 = .ok (.iconst 0, 1) := by decide +kernel
theorem dX8_isCount_15 : decode cX8_isCount 15 = .ok (.ireturn, 1) := by decide +kernel
def f_X8_isCount (a1 : Int32) (H : Hp) : Option (Int32 × Hp) := if a1 < 0 then some (0, H) else if 1000000 < a1 then some (0, H) else some (1, H)
set_option maxRecDepth 100000 in
set_option maxHeartbeats 4000000 in
theorem s_X8_isCount {p : Program} {l : Launch} {e : Env} {s : State} {m : MethodId} {args : Array Value} {below : List Frame} {meth : Method} {c : Code} {A : Nat → Prop} {D : va_G} {K4 : kQ} {ad : Nat → Nat → Nat} {nr : Nat} {a1 : Int32} {H : Hp} {res : Int32 × Hp} (hC : Cx p s m args c A s.heap D K4 1 RX8 cX8_isCount) (hret : meth.sig.returnType = (some .boolean) ∧ meth.locks = false) (h : f_X8_isCount a1 H = some res) : V p l e ({ frames := 0, cells := 0, slots := 0, locals := 0 }) s m args below meth c A s.heap (QI below args s A D K4 ad nr res) D K4 ad nr 1 0 [(0, .int a1)] [] H := by
  unfold f_X8_isCount at h
  refine V_iload_n hC 0 dX8_isCount_0 rfl ?_
  refine V_if_lt (tgt := 14) hC dX8_isCount_1 (by decide) (fun c1 => ?_) (fun c1 => ?_)
  · replace h := it_pos c1 h
    refine V_iconst (v := 0) hC dX8_isCount_14 (by decide) ?_
    exact V_zret hC hret (by decide) dX8_isCount_15 h
  · replace h := it_neg c1 h
    refine V_iload_n hC 0 dX8_isCount_4 rfl ?_
    refine V_ldc hC dX8_isCount_5 cl_X8_200 ?_
    refine V_icmp_gt (tgt := 14) hC dX8_isCount_7 (by decide) (fun c2 => ?_) (fun c2 => ?_)
    · replace h := it_pos c2 h
      refine V_iconst (v := 0) hC dX8_isCount_14 (by decide) ?_
      exact V_zret hC hret (by decide) dX8_isCount_15 h
    · replace h := it_neg c2 h
      refine V_iconst (v := 1) hC dX8_isCount_10 (by decide) ?_
      refine V_goto (tgt := 15) hC dX8_isCount_11 (by decide) ?_
      exact V_zret hC hret (by decide) dX8_isCount_15 h
theorem c_X8_isCount (l : Launch) {nr : Nat} {a1 : Int32} {H : Hp} {x : Int32} {H' : Hp} (h : f_X8_isCount a1 H = some (x, H')) : CI l nr yX8_isCount cX8_isCount 1 (some .boolean) 0 0 (fun ad => [.int a1]) H x H' := by
  intro D K4 ad sz
  refine Met.ofV (by decide) (Nat.le_of_ble_eq_true rfl) ?_
  intro p e s m args below meth c hC hret hsz
  subst hsz
  exact s_X8_isCount hC hret h
theorem dX8_finishedAt_0 : decode cX8_finishedAt 0 = .ok (.aload_n 0, 1) := by decide +kernel
theorem dX8_finishedAt_1 : decode cX8_finishedAt 1 = .ok (.iload_n 1, 1) := by decide +kernel
theorem dX8_finishedAt_2 : decode cX8_finishedAt 2 = .ok (.invokevirtual 37, 3) := by decide +kernel
theorem dX8_finishedAt_5 : decode cX8_finishedAt 5 = .ok (.astore_n 2, 1) := by decide +kernel
theorem dX8_finishedAt_6 : decode cX8_finishedAt 6 = .ok (.aload_n 2, 1) := by decide +kernel
theorem dX8_finishedAt_7 : decode cX8_finishedAt 7 = .ok (.ifnull 10, 3) := by decide +kernel
theorem dX8_finishedAt_10 : decode cX8_finishedAt 10 = .ok (.aload_n 2, 1) := by decide +kernel
theorem dX8_finishedAt_11 : decode cX8_finishedAt 11 = .ok (.getfield 40, 3) := by decide +kernel
theorem dX8_finishedAt_14 : decode cX8_finishedAt 14 = .ok (.ifCond .ne 7, 3) := by decide +kernel
theorem dX8_finishedAt_17 : decode cX8_finishedAt 17 = .ok (.aconst_null, 1) := by decide +kernel
theorem dX8_finishedAt_18 : decode cX8_finishedAt 18 = .ok (.goto 4, 3) := by decide +kernel
theorem dX8_finishedAt_21 : decode cX8_finishedAt 21 = .ok (.aload_n 2, 1) := by decide +kernel
theorem dX8_finishedAt_22 : decode cX8_finishedAt 22 = .ok (.areturn, 1) := by decide +kernel
def f_X8_finishedAt (nr : Nat) (a1 : Int32) (H : Hp) : Option (Option Nat × Hp) := bnd (f_X8_routineAt a1 H) (fun w2 H1 => nz nr w2 (some (none, H1)) (fun r3 => if (gI H1 (r3 + 2) 0 8) = 0 then some (none, H1) else some ((some r3), H1)))
set_option maxRecDepth 100000 in
set_option maxHeartbeats 4000000 in
theorem s_X8_finishedAt {p : Program} {l : Launch} {e : Env} {s : State} {m : MethodId} {args : Array Value} {below : List Frame} {meth : Method} {c : Code} {A : Nat → Prop} {D : va_G} {K4 : kQ} {ad : Nat → Nat → Nat} {nr : Nat} {a1 : Int32} {H : Hp} {res : Option Nat × Hp} (hC : Cx p s m args c A s.heap D K4 3 RX8 cX8_finishedAt) (hret : meth.sig.returnType = (some (.object "CounterPlacer$Routine")) ∧ meth.locks = false) (h : f_X8_finishedAt nr a1 H = some res) : V p l e ({ frames := 1, cells := 0, slots := 0, locals := 21 }) s m args below meth c A s.heap (QQ below args s A D K4 ad nr res) D K4 ad nr 3 0 [(0, .ref (ad 1 0)), (1, .int a1)] [] H := by
  unfold f_X8_finishedAt at h
  refine V_aload_n hC 0 dX8_finishedAt_0 rfl ?_
  refine V_iload_n hC 1 dX8_finishedAt_1 rfl ?_
  obtain ⟨w2, H1, hc, h⟩ := bnd_some h
  refine V_callq (g := 1) (k := 0) (As := [.int a1]) (st := []) hC (c_X8_routineAt l hc) rfl ml_X8_37 ⟨Nat.le_of_ble_eq_true rfl, Nat.le_of_ble_eq_true rfl⟩ rfl rfl rfl (Nat.le_of_ble_eq_true rfl) dX8_finishedAt_2 ?_
  refine V_astoreq_n (lv' := [(2, vr ad w2), (0, .ref (ad 1 0)), (1, .int a1)]) hC dX8_finishedAt_5 (Nat.le_of_ble_eq_true rfl) rfl ?_
  refine V_aloadq_n hC 0 dX8_finishedAt_6 rfl ?_
  replace h := nz_some h
  rcases h with ⟨rfl, h⟩ | ⟨r3, rfl, hr_r3, h⟩
  · refine V_ifnullN (tgt := 17) hC dX8_finishedAt_7 (by decide) ?_
    refine V_null hC dX8_finishedAt_17 ?_
    refine V_goto (tgt := 22) hC dX8_finishedAt_18 (by decide) ?_
    exact V_qret (o := none) hC hret dX8_finishedAt_22 h
  · refine V_ifnullS (r := r3) hC dX8_finishedAt_7 ?_
    refine V_aload_n hC 0 dX8_finishedAt_10 rfl ?_
    refine V_getI (g := (r3 + 2)) (k := 0) hC 2 8 fl_X8_40 (okR hr_r3 rfl) rfl rfl dX8_finishedAt_11 ?_
    refine V_if_ne (tgt := 21) hC dX8_finishedAt_14 (by decide) (fun c4 => ?_) (fun c4 => ?_)
    · replace h := it_neg c4 h
      refine V_aload_n hC 0 dX8_finishedAt_21 rfl ?_
      exact V_qret (o := (some r3)) hC hret dX8_finishedAt_22 h
    · replace h := it_pos c4 h
      refine V_null hC dX8_finishedAt_17 ?_
      refine V_goto (tgt := 22) hC dX8_finishedAt_18 (by decide) ?_
      exact V_qret (o := none) hC hret dX8_finishedAt_22 h
theorem c_X8_finishedAt (l : Launch) {nr : Nat} {a1 : Int32} {H : Hp} {x : Option Nat} {H' : Hp} (h : f_X8_finishedAt nr a1 H = some (x, H')) : CQ l nr yX8_finishedAt cX8_finishedAt 3 (some (.object "CounterPlacer$Routine")) 1 21 (fun ad => [.ref (ad 1 0), .int a1]) H x H' := by
  intro D K4 ad sz
  refine Met.ofV (by decide) (Nat.le_of_ble_eq_true rfl) ?_
  intro p e s m args below meth c hC hret hsz
  subst hsz
  exact s_X8_finishedAt hC hret h
theorem dX8_finishedWithEdge_0 : decode cX8_finishedWithEdge 0 = .ok (.aload_n 0, 1) := by decide +kernel
theorem dX8_finishedWithEdge_1 : decode cX8_finishedWithEdge 1 = .ok (.iload_n 1, 1) := by decide +kernel
theorem dX8_finishedWithEdge_2 : decode cX8_finishedWithEdge 2 = .ok (.invokevirtual 73, 3) := by decide +kernel
theorem dX8_finishedWithEdge_5 : decode cX8_finishedWithEdge 5 = .ok (.astore_n 3, 1) := by decide +kernel
theorem dX8_finishedWithEdge_6 : decode cX8_finishedWithEdge 6 = .ok (.aload_n 3, 1) := by decide +kernel
theorem dX8_finishedWithEdge_7 : decode cX8_finishedWithEdge 7 = .ok (.ifnull 14, 3) := by decide +kernel
theorem dX8_finishedWithEdge_10 : decode cX8_finishedWithEdge 10 = .ok (.aload_n 3, 1) := by decide +kernel
theorem dX8_finishedWithEdge_11 : decode cX8_finishedWithEdge 11 = .ok (.getfield 44, 3) := by decide +kernel
theorem dX8_finishedWithEdge_14 : decode cX8_finishedWithEdge 14 = .ok (.iload_n 2, 1) := by decide +kernel
theorem dX8_finishedWithEdge_15 : decode cX8_finishedWithEdge 15 = .ok (.invokevirtual 62, 3) := by decide +kernel
theorem dX8_finishedWithEdge_18 : decode cX8_finishedWithEdge 18 = .ok (.ifCond .ne 7, 3) := by decide +kernel
theorem dX8_finishedWithEdge_21 : decode cX8_finishedWithEdge 21 = .ok (.aconst_null, 1) := by decide +kernel
theorem dX8_finishedWithEdge_22 : decode cX8_finishedWithEdge 22 = .ok (.goto 4, 3) := by decide +kernel
theorem dX8_finishedWithEdge_25 : decode cX8_finishedWithEdge 25 = .ok (.aload_n 3, 1) := by decide +kernel
theorem dX8_finishedWithEdge_26 : decode cX8_finishedWithEdge 26 = .ok (.areturn, 1) := by decide +kernel
def f_X8_finishedWithEdge (nr : Nat) (a1 : Int32) (a2 : Int32) (H : Hp) : Option (Option Nat × Hp) := bnd (f_X8_finishedAt nr a1 H) (fun w2 H1 => nz nr w2 (some (none, H1)) (fun r3 => bnd (f_X3_hasEdge r3 a2 H1) (fun w5 H4 => if w5 = 0 then some (none, H4) else some ((some r3), H4))))
set_option maxRecDepth 100000 in
set_option maxHeartbeats 4000000 in
theorem s_X8_finishedWithEdge {p : Program} {l : Launch} {e : Env} {s : State} {m : MethodId} {args : Array Value} {below : List Frame} {meth : Method} {c : Code} {A : Nat → Prop} {D : va_G} {K4 : kQ} {ad : Nat → Nat → Nat} {nr : Nat} {a1 : Int32} {a2 : Int32} {H : Hp} {res : Option Nat × Hp} (hC : Cx p s m args c A s.heap D K4 4 RX8 cX8_finishedWithEdge) (hret : meth.sig.returnType = (some (.object "CounterPlacer$Routine")) ∧ meth.locks = false) (h : f_X8_finishedWithEdge nr a1 a2 H = some res) : V p l e ({ frames := 2, cells := 0, slots := 0, locals := 43 }) s m args below meth c A s.heap (QQ below args s A D K4 ad nr res) D K4 ad nr 4 0 [(0, .ref (ad 1 0)), (1, .int a1), (2, .int a2)] [] H := by
  unfold f_X8_finishedWithEdge at h
  refine V_aload_n hC 0 dX8_finishedWithEdge_0 rfl ?_
  refine V_iload_n hC 1 dX8_finishedWithEdge_1 rfl ?_
  obtain ⟨w2, H1, hc, h⟩ := bnd_some h
  refine V_callq (g := 1) (k := 0) (As := [.int a1]) (st := []) hC (c_X8_finishedAt l hc) rfl ml_X8_73 ⟨Nat.le_of_ble_eq_true rfl, Nat.le_of_ble_eq_true rfl⟩ rfl rfl rfl (Nat.le_of_ble_eq_true rfl) dX8_finishedWithEdge_2 ?_
  refine V_astoreq_n (lv' := [(3, vr ad w2), (0, .ref (ad 1 0)), (1, .int a1), (2, .int a2)]) hC dX8_finishedWithEdge_5 (Nat.le_of_ble_eq_true rfl) rfl ?_
  refine V_aloadq_n hC 0 dX8_finishedWithEdge_6 rfl ?_
  replace h := nz_some h
  rcases h with ⟨rfl, h⟩ | ⟨r3, rfl, hr_r3, h⟩
  · refine V_ifnullN (tgt := 21) hC dX8_finishedWithEdge_7 (by decide) ?_
    refine V_null hC dX8_finishedWithEdge_21 ?_
    refine V_goto (tgt := 26) hC dX8_finishedWithEdge_22 (by decide) ?_
    exact V_qret (o := none) hC hret dX8_finishedWithEdge_26 h
  · refine V_ifnullS (r := r3) hC dX8_finishedWithEdge_7 ?_
    refine V_aload_n hC 0 dX8_finishedWithEdge_10 rfl ?_
    refine V_getR (g := (r3 + 2)) (k := 0) (g' := (r3 + 2)) (k' := 1) hC 2 1 fl_X8_44 (okR hr_r3 rfl) rfl rfl rfl dX8_finishedWithEdge_11 ?_
    refine V_iload_n hC 3 dX8_finishedWithEdge_14 rfl ?_
    obtain ⟨w5, H4, hc, h⟩ := bnd_some h
    refine V_calli (g := (r3 + 2)) (k := 1) (As := [.int a2]) (st := []) hC (c_X3_hasEdge l (hr_r := hr_r3) hc) rfl ml_X8_62 ⟨Nat.le_of_ble_eq_true rfl, Nat.le_of_ble_eq_true rfl⟩ (okR hr_r3 rfl) rfl rfl (Nat.le_of_ble_eq_true rfl) dX8_finishedWithEdge_15 ?_
    refine V_if_ne (tgt := 25) hC dX8_finishedWithEdge_18 (by decide) (fun c6 => ?_) (fun c6 => ?_)
    · replace h := it_neg c6 h
      refine V_aload_n hC 0 dX8_finishedWithEdge_25 rfl ?_
      exact V_qret (o := (some r3)) hC hret dX8_finishedWithEdge_26 h
    · replace h := it_pos c6 h
      refine V_null hC dX8_finishedWithEdge_21 ?_
      refine V_goto (tgt := 26) hC dX8_finishedWithEdge_22 (by decide) ?_
      exact V_qret (o := none) hC hret dX8_finishedWithEdge_26 h
theorem c_X8_finishedWithEdge (l : Launch) {nr : Nat} {a1 : Int32} {a2 : Int32} {H : Hp} {x : Option Nat} {H' : Hp} (h : f_X8_finishedWithEdge nr a1 a2 H = some (x, H')) : CQ l nr yX8_finishedWithEdge cX8_finishedWithEdge 4 (some (.object "CounterPlacer$Routine")) 2 43 (fun ad => [.ref (ad 1 0), .int a1, .int a2]) H x H' := by
  intro D K4 ad sz
  refine Met.ofV (by decide) (Nat.le_of_ble_eq_true rfl) ?_
  intro p e s m args below meth c hC hret hsz
  subst hsz
  exact s_X8_finishedWithEdge hC hret h
theorem dX8_block_0 : decode cX8_block 0 = .ok (.aload_n 0, 1) := by decide +kernel
theorem dX8_block_1 : decode cX8_block 1 = .ok (.iload_n 1, 1) := by decide +kernel
theorem dX8_block_2 : decode cX8_block 2 = .ok (.invokevirtual 37, 3) := by decide +kernel
theorem dX8_block_5 : decode cX8_block 5 = .ok (.astore 4, 2) := by decide +kernel
theorem dX8_block_7 : decode cX8_block 7 = .ok (.aload 4, 2) := by decide +kernel
theorem dX8_block_9 : decode cX8_block 9 = .ok (.ifnull 20, 3) := by decide +kernel
theorem dX8_block_12 : decode cX8_block 12 = .ok (.aload 4, 2) := by decide +kernel
theorem dX8_block_14 : decode cX8_block 14 = .ok (.getfield 40, 3) := by decide +kernel
theorem dX8_block_17 : decode cX8_block 17 = .ok (.ifCond .ne 12, 3) := by decide +kernel
theorem dX8_block_20 : decode cX8_block 20 = .ok (.iload_n 2, 1) := by decide +kernel
theorem dX8_block_21 : decode cX8_block 21 = .ok (.ifCond .lt 8, 3) := by decide +kernel
theorem dX8_block_24 : decode cX8_block 24 = .ok (.iload_n 2, 1) := by decide +kernel
theorem dX8_block_25 : decode cX8_block 25 = .ok (.iconst 4, 1) := by decide +kernel
theorem dX8_block_26 : decode cX8_block 26 = .ok (.if_icmp .le 5, 3) := by decide +kernel
theorem dX8_block_29 : decode cX8_block 29 = .ok (.iconst (-1), 1) := by decide +kernel
theorem dX8_block_30 : decode cX8_block 30 = .ok (.ireturn, 1) := by decide +kernel
theorem dX8_block_31 : decode cX8_block 31 = .ok (.iload_n 2, 1) := by decide +kernel
theorem dX8_block_32 : decode cX8_block 32 = .ok (.iconst 2, 1) := by decide +kernel
theorem dX8_block_33 : decode cX8_block 33 = .ok (.if_icmp .ne 15, 3) := by decide +kernel
theorem dX8_block_36 : decode cX8_block 36 = .ok (.iload_n 3, 1) := by decide +kernel
theorem dX8_block_37 : decode cX8_block 37 = .ok (.ifCond .lt 9, 3) := by decide +kernel
theorem dX8_block_40 : decode cX8_block 40 = .ok (.iload_n 3, 1) := by decide +kernel
theorem dX8_block_41 : decode cX8_block 41 = .ok (.bipush 8, 2) := by decide +kernel
theorem dX8_block_43 : decode cX8_block 43 = .ok (.if_icmp .lt 5, 3) := by decide +kernel
theorem dX8_block_46 : decode cX8_block 46 = .ok (.iconst (-1), 1) := by decide +kernel
theorem dX8_block_47 : decode cX8_block 47 = .ok (.ireturn, 1) := by decide +kernel
theorem dX8_block_48 : decode cX8_block 48 = .ok (.aload 4, 2) := by decide +kernel
theorem dX8_block_50 : decode cX8_block 50 = .ok (.getfield 44, 3) := by decide +kernel
theorem dX8_block_53 : decode cX8_block 53 = .ok (.iload_n 2, 1) := by decide +kernel
theorem dX8_block_54 : decode cX8_block 54 = .ok (.iload_n 2, 1) := by decide +kernel
theorem dX8_block_55 : decode cX8_block 55 = .ok (.iconst 2, 1) := by decide +kernel
theorem dX8_block_56 : decode cX8_block 56 = .ok (.if_icmp .ne 7, 3) := by decide +kernel
theorem dX8_block_59 : decode cX8_block 59 = .ok (.iload_n 3, 1) := by decide +kernel
theorem dX8_block_60 : decode cX8_block 60 = .ok (.goto 4, 3) := by decide +kernel
theorem dX8_block_63 : decode cX8_block 63 = .ok (.iconst (-1), 1) := by decide +kernel
theorem dX8_block_64 : decode cX8_block 64 = .ok (.invokevirtual 48, 3) := by decide +kernel
theorem dX8_block_67 : decode cX8_block 67 = .ok (.ireturn, 1) := by decide +kernel
def f_X8_block (nr : Nat) (a1 : Int32) (a2 : Int32) (a3 : Int32) (H : Hp) : Option (Int32 × Hp) := bnd (f_X8_routineAt a1 H) (fun w2 H1 => nz nr w2 (some ((-1), H1)) (fun r3 => if (gI H1 (r3 + 2) 0 8) = 0 then if a2 < 0 then some ((-1), H1) else if a2 ≤ 4 then jn (fun (H8 : Hp) => if a2 = 2 then bnd (f_X3_addBlock r3 a2 a3 H8) (fun w13 H12 => some (w13, H12)) else bnd (f_X3_addBlock r3 a2 (-1) H8) (fun w11 H10 => some (w11, H10))) (fun j7 => if a2 = 2 then if a3 < 0 then some ((-1), H1) else if a3 < 8 then j7 H1 else some ((-1), H1) else j7 H1) else some ((-1), H1) else some ((-1), H1)))
set_option maxRecDepth 100000 in
set_option maxHeartbeats 4000000 in
theorem s_X8_block {p : Program} {l : Launch} {e : Env} {s : State} {m : MethodId} {args : Array Value} {below : List Frame} {meth : Method} {c : Code} {A : Nat → Prop} {D : va_G} {K4 : kQ} {ad : Nat → Nat → Nat} {nr : Nat} {a1 : Int32} {a2 : Int32} {a3 : Int32} {H : Hp} {res : Int32 × Hp} (hC : Cx p s m args c A s.heap D K4 5 RX8 cX8_block) (hret : meth.sig.returnType = (some .int) ∧ meth.locks = false) (h : f_X8_block nr a1 a2 a3 H = some res) : V p l e ({ frames := 1, cells := 0, slots := 0, locals := 22 }) s m args below meth c A s.heap (QI below args s A D K4 ad nr res) D K4 ad nr 5 0 [(0, .ref (ad 1 0)), (1, .int a1), (2, .int a2), (3, .int a3)] [] H := by
  unfold f_X8_block at h
  refine V_aload_n hC 0 dX8_block_0 rfl ?_
  refine V_iload_n hC 1 dX8_block_1 rfl ?_
  obtain ⟨w2, H1, hc, h⟩ := bnd_some h
  refine V_callq (g := 1) (k := 0) (As := [.int a1]) (st := []) hC (c_X8_routineAt l hc) rfl ml_X8_37 ⟨Nat.le_of_ble_eq_true rfl, Nat.le_of_ble_eq_true rfl⟩ rfl rfl rfl (Nat.le_of_ble_eq_true rfl) dX8_block_2 ?_
  refine V_astoreq (lv' := [(4, vr ad w2), (0, .ref (ad 1 0)), (1, .int a1), (2, .int a2), (3, .int a3)]) hC dX8_block_5 (Nat.le_of_ble_eq_true rfl) rfl ?_
  refine V_aloadq hC 0 dX8_block_7 rfl ?_
  replace h := nz_some h
  rcases h with ⟨rfl, h⟩ | ⟨r3, rfl, hr_r3, h⟩
  · refine V_ifnullN (tgt := 29) hC dX8_block_9 (by decide) ?_
    refine V_iconst (v := -1) hC dX8_block_29 (by decide) ?_
    exact V_iret hC hret dX8_block_30 h
  · refine V_ifnullS (r := r3) hC dX8_block_9 ?_
    refine V_aload hC 0 dX8_block_12 rfl ?_
    refine V_getI (g := (r3 + 2)) (k := 0) hC 2 8 fl_X8_40 (okR hr_r3 rfl) rfl rfl dX8_block_14 ?_
    refine V_if_ne (tgt := 29) hC dX8_block_17 (by decide) (fun c4 => ?_) (fun c4 => ?_)
    · replace h := it_neg c4 h
      refine V_iconst (v := -1) hC dX8_block_29 (by decide) ?_
      exact V_iret hC hret dX8_block_30 h
    · replace h := it_pos c4 h
      refine V_iload_n hC 3 dX8_block_20 rfl ?_
      refine V_if_lt (tgt := 29) hC dX8_block_21 (by decide) (fun c5 => ?_) (fun c5 => ?_)
      · replace h := it_pos c5 h
        refine V_iconst (v := -1) hC dX8_block_29 (by decide) ?_
        exact V_iret hC hret dX8_block_30 h
      · replace h := it_neg c5 h
        refine V_iload_n hC 3 dX8_block_24 rfl ?_
        refine V_iconst (v := 4) hC dX8_block_25 (by decide) ?_
        refine V_icmp_le (tgt := 31) hC dX8_block_26 (by decide) (fun c6 => ?_) (fun c6 => ?_)
        · replace h := it_pos c6 h
          refine V_iload_n hC 3 dX8_block_31 rfl ?_
          refine V_iconst (v := 2) hC dX8_block_32 (by decide) ?_
          refine V_jn0 (pj := 48) (lj := [(2, .int a2), (3, .int a3), (4, .ref (ad (r3 + 2) 0))]) (sj := []) h (fun H8 h => ?_) (fun hj7 h => ?_)
          · refine V_aload hC 2 dX8_block_48 rfl ?_
            refine V_getR (g := (r3 + 2)) (k := 0) (g' := (r3 + 2)) (k' := 1) hC 2 1 fl_X8_44 (okR hr_r3 rfl) rfl rfl rfl dX8_block_50 ?_
            refine V_iload_n hC 0 dX8_block_53 rfl ?_
            refine V_iload_n hC 0 dX8_block_54 rfl ?_
            refine V_iconst (v := 2) hC dX8_block_55 (by decide) ?_
            refine V_icmp_ne (tgt := 63) hC dX8_block_56 (by decide) (fun c9 => ?_) (fun c9 => ?_)
            · replace h := it_neg c9 h
              refine V_iconst (v := -1) hC dX8_block_63 (by decide) ?_
              obtain ⟨w11, H10, hc, h⟩ := bnd_some h
              refine V_calli (g := (r3 + 2)) (k := 1) (As := [.int a2, .int (-1)]) (st := []) hC (c_X3_addBlock l (hr_r := hr_r3) hc) rfl ml_X8_48 ⟨Nat.le_of_ble_eq_true rfl, Nat.le_of_ble_eq_true rfl⟩ (okR hr_r3 rfl) rfl rfl (Nat.le_of_ble_eq_true rfl) dX8_block_64 ?_
              exact V_iret hC hret dX8_block_67 h
            · replace h := it_pos c9 h
              refine V_iload_n hC 1 dX8_block_59 rfl ?_
              refine V_goto (tgt := 64) hC dX8_block_60 (by decide) ?_
              obtain ⟨w13, H12, hc, h⟩ := bnd_some h
              refine V_calli (g := (r3 + 2)) (k := 1) (As := [.int a2, .int a3]) (st := []) hC (c_X3_addBlock l (hr_r := hr_r3) hc) rfl ml_X8_48 ⟨Nat.le_of_ble_eq_true rfl, Nat.le_of_ble_eq_true rfl⟩ (okR hr_r3 rfl) rfl rfl (Nat.le_of_ble_eq_true rfl) dX8_block_64 ?_
              exact V_iret hC hret dX8_block_67 h
          · refine V_icmp_ne (tgt := 48) hC dX8_block_33 (by decide) (fun c14 => ?_) (fun c14 => ?_)
            · replace h := it_neg c14 h
              refine V_lv (lv' := [(2, .int a2), (3, .int a3), (4, .ref (ad (r3 + 2) 0))]) [3, 4, 0] rfl ?_
              exact hj7 H1 h
            · replace h := it_pos c14 h
              refine V_iload_n hC 4 dX8_block_36 rfl ?_
              refine V_if_lt (tgt := 46) hC dX8_block_37 (by decide) (fun c15 => ?_) (fun c15 => ?_)
              · replace h := it_pos c15 h
                refine V_iconst (v := -1) hC dX8_block_46 (by decide) ?_
                exact V_iret hC hret dX8_block_47 h
              · replace h := it_neg c15 h
                refine V_iload_n hC 4 dX8_block_40 rfl ?_
                refine V_bipush (v := 8) hC dX8_block_41 (by decide) ?_
                refine V_icmp_lt (tgt := 48) hC dX8_block_43 (by decide) (fun c16 => ?_) (fun c16 => ?_)
                · replace h := it_pos c16 h
                  refine V_lv (lv' := [(2, .int a2), (3, .int a3), (4, .ref (ad (r3 + 2) 0))]) [3, 4, 0] rfl ?_
                  exact hj7 H1 h
                · replace h := it_neg c16 h
                  refine V_iconst (v := -1) hC dX8_block_46 (by decide) ?_
                  exact V_iret hC hret dX8_block_47 h
        · replace h := it_neg c6 h
          refine V_iconst (v := -1) hC dX8_block_29 (by decide) ?_
          exact V_iret hC hret dX8_block_30 h
theorem c_X8_block (l : Launch) {nr : Nat} {a1 : Int32} {a2 : Int32} {a3 : Int32} {H : Hp} {x : Int32} {H' : Hp} (h : f_X8_block nr a1 a2 a3 H = some (x, H')) : CI l nr yX8_block cX8_block 5 (some .int) 1 22 (fun ad => [.ref (ad 1 0), .int a1, .int a2, .int a3]) H x H' := by
  intro D K4 ad sz
  refine Met.ofV (by decide) (Nat.le_of_ble_eq_true rfl) ?_
  intro p e s m args below meth c hC hret hsz
  subst hsz
  exact s_X8_block hC hret h
theorem dX8_edge_0 : decode cX8_edge 0 = .ok (.aload_n 0, 1) := by decide +kernel
theorem dX8_edge_1 : decode cX8_edge 1 = .ok (.iload_n 1, 1) := by decide +kernel
theorem dX8_edge_2 : decode cX8_edge 2 = .ok (.invokevirtual 37, 3) := by decide +kernel
theorem dX8_edge_5 : decode cX8_edge 5 = .ok (.astore 6, 2) := by decide +kernel
theorem dX8_edge_7 : decode cX8_edge 7 = .ok (.aload 6, 2) := by decide +kernel
theorem dX8_edge_9 : decode cX8_edge 9 = .ok (.ifnull 19, 3) := by decide +kernel
theorem dX8_edge_12 : decode cX8_edge 12 = .ok (.aload 6, 2) := by decide +kernel
theorem dX8_edge_14 : decode cX8_edge 14 = .ok (.getfield 40, 3) := by decide +kernel
theorem dX8_edge_17 : decode cX8_edge 17 = .ok (.ifCond .ne 11, 3) := by decide +kernel
theorem dX8_edge_20 : decode cX8_edge 20 = .ok (.iload 4, 2) := by decide +kernel
theorem dX8_edge_22 : decode cX8_edge 22 = .ok (.invokestatic 54, 3) := by decide +kernel
theorem dX8_edge_25 : decode cX8_edge 25 = .ok (.ifCond .ne 5, 3) := by decide +kernel
theorem dX8_edge_28 : decode cX8_edge 28 = .ok (.iconst (-1), 1) := by decide +kernel
theorem dX8_edge_29 : decode cX8_edge 29 = .ok (.ireturn, 1) := by decide +kernel
theorem dX8_edge_30 : decode cX8_edge 30 = .ok (.aload 6, 2) := by decide +kernel
theorem dX8_edge_32 : decode cX8_edge 32 = .ok (.getfield 44, 3) := by decide +kernel
theorem dX8_edge_35 : decode cX8_edge 35 = .ok (.iload_n 2, 1) := by decide +kernel
theorem dX8_edge_36 : decode cX8_edge 36 = .ok (.iload_n 3, 1) := by decide +kernel
theorem dX8_edge_37 : decode cX8_edge 37 = .ok (.iload 4, 2) := by decide +kernel
theorem dX8_edge_39 : decode cX8_edge 39 = .ok (.iload 5, 2) := by decide +kernel
theorem dX8_edge_41 : decode cX8_edge 41 = .ok (.invokevirtual 58, 3) := by decide +kernel
theorem dX8_edge_44 : decode cX8_edge 44 = .ok (.ireturn, 1) := by decide +kernel
def f_X8_edge (nr : Nat) (a1 : Int32) (a2 : Int32) (a3 : Int32) (a4 : Int32) (a5 : Int32) (H : Hp) : Option (Int32 × Hp) := bnd (f_X8_routineAt a1 H) (fun w2 H1 => nz nr w2 (some ((-1), H1)) (fun r3 => if (gI H1 (r3 + 2) 0 8) = 0 then bnd (f_X8_isCount a4 H1) (fun w6 H5 => if w6 = 0 then some ((-1), H5) else bnd (f_X3_addEdge r3 a2 a3 a4 a5 H5) (fun w9 H8 => some (w9, H8))) else some ((-1), H1)))
set_option maxRecDepth 100000 in
set_option maxHeartbeats 4000000 in
theorem s_X8_edge {p : Program} {l : Launch} {e : Env} {s : State} {m : MethodId} {args : Array Value} {below : List Frame} {meth : Method} {c : Code} {A : Nat → Prop} {D : va_G} {K4 : kQ} {ad : Nat → Nat → Nat} {nr : Nat} {a1 : Int32} {a2 : Int32} {a3 : Int32} {a4 : Int32} {a5 : Int32} {H : Hp} {res : Int32 × Hp} (hC : Cx p s m args c A s.heap D K4 7 RX8 cX8_edge) (hret : meth.sig.returnType = (some .int) ∧ meth.locks = false) (h : f_X8_edge nr a1 a2 a3 a4 a5 H = some res) : V p l e ({ frames := 2, cells := 0, slots := 0, locals := 45 }) s m args below meth c A s.heap (QI below args s A D K4 ad nr res) D K4 ad nr 7 0 [(0, .ref (ad 1 0)), (1, .int a1), (2, .int a2), (3, .int a3), (4, .int a4), (5, .int a5)] [] H := by
  unfold f_X8_edge at h
  refine V_aload_n hC 0 dX8_edge_0 rfl ?_
  refine V_iload_n hC 1 dX8_edge_1 rfl ?_
  obtain ⟨w2, H1, hc, h⟩ := bnd_some h
  refine V_callq (g := 1) (k := 0) (As := [.int a1]) (st := []) hC (c_X8_routineAt l hc) rfl ml_X8_37 ⟨Nat.le_of_ble_eq_true rfl, Nat.le_of_ble_eq_true rfl⟩ rfl rfl rfl (Nat.le_of_ble_eq_true rfl) dX8_edge_2 ?_
  refine V_astoreq (lv' := [(6, vr ad w2), (0, .ref (ad 1 0)), (1, .int a1), (2, .int a2), (3, .int a3), (4, .int a4), (5, .int a5)]) hC dX8_edge_5 (Nat.le_of_ble_eq_true rfl) rfl ?_
  refine V_aloadq hC 0 dX8_edge_7 rfl ?_
  replace h := nz_some h
  rcases h with ⟨rfl, h⟩ | ⟨r3, rfl, hr_r3, h⟩
  · refine V_ifnullN (tgt := 28) hC dX8_edge_9 (by decide) ?_
    refine V_iconst (v := -1) hC dX8_edge_28 (by decide) ?_
    exact V_iret hC hret dX8_edge_29 h
  · refine V_ifnullS (r := r3) hC dX8_edge_9 ?_
    refine V_aload hC 0 dX8_edge_12 rfl ?_
    refine V_getI (g := (r3 + 2)) (k := 0) hC 2 8 fl_X8_40 (okR hr_r3 rfl) rfl rfl dX8_edge_14 ?_
    refine V_if_ne (tgt := 28) hC dX8_edge_17 (by decide) (fun c4 => ?_) (fun c4 => ?_)
    · replace h := it_neg c4 h
      refine V_iconst (v := -1) hC dX8_edge_28 (by decide) ?_
      exact V_iret hC hret dX8_edge_29 h
    · replace h := it_pos c4 h
      refine V_iload hC 5 dX8_edge_20 rfl ?_
      obtain ⟨w6, H5, hc, h⟩ := bnd_some h
      refine V_callsi (As := [.int a4]) (st := []) hC (c_X8_isCount l hc) rfl ml_X8_54 ⟨Nat.le_of_ble_eq_true rfl, Nat.le_of_ble_eq_true rfl⟩ rfl (Nat.le_of_ble_eq_true rfl) dX8_edge_22 ?_
      refine V_if_ne (tgt := 30) hC dX8_edge_25 (by decide) (fun c7 => ?_) (fun c7 => ?_)
      · replace h := it_neg c7 h
        refine V_aload hC 0 dX8_edge_30 rfl ?_
        refine V_getR (g := (r3 + 2)) (k := 0) (g' := (r3 + 2)) (k' := 1) hC 2 1 fl_X8_44 (okR hr_r3 rfl) rfl rfl rfl dX8_edge_32 ?_
        refine V_iload_n hC 3 dX8_edge_35 rfl ?_
        refine V_iload_n hC 4 dX8_edge_36 rfl ?_
        refine V_iload hC 5 dX8_edge_37 rfl ?_
        refine V_iload hC 6 dX8_edge_39 rfl ?_
        obtain ⟨w9, H8, hc, h⟩ := bnd_some h
        refine V_calli (g := (r3 + 2)) (k := 1) (As := [.int a2, .int a3, .int a4, .int a5]) (st := []) hC (c_X3_addEdge l (hr_r := hr_r3) hc) rfl ml_X8_58 ⟨Nat.le_of_ble_eq_true rfl, Nat.le_of_ble_eq_true rfl⟩ (okR hr_r3 rfl) rfl rfl (Nat.le_of_ble_eq_true rfl) dX8_edge_41 ?_
        exact V_iret hC hret dX8_edge_44 h
      · replace h := it_pos c7 h
        refine V_iconst (v := -1) hC dX8_edge_28 (by decide) ?_
        exact V_iret hC hret dX8_edge_29 h
theorem c_X8_edge (l : Launch) {nr : Nat} {a1 : Int32} {a2 : Int32} {a3 : Int32} {a4 : Int32} {a5 : Int32} {H : Hp} {x : Int32} {H' : Hp} (h : f_X8_edge nr a1 a2 a3 a4 a5 H = some (x, H')) : CI l nr yX8_edge cX8_edge 7 (some .int) 2 45 (fun ad => [.ref (ad 1 0), .int a1, .int a2, .int a3, .int a4, .int a5]) H x H' := by
  intro D K4 ad sz
  refine Met.ofV (by decide) (Nat.le_of_ble_eq_true rfl) ?_
  intro p e s m args below meth c hC hret hsz
  subst hsz
  exact s_X8_edge hC hret h
theorem dX8_guess_0 : decode cX8_guess 0 = .ok (.aload_n 0, 1) := by decide +kernel
theorem dX8_guess_1 : decode cX8_guess 1 = .ok (.iload_n 1, 1) := by decide +kernel
theorem dX8_guess_2 : decode cX8_guess 2 = .ok (.invokevirtual 37, 3) := by decide +kernel
theorem dX8_guess_5 : decode cX8_guess 5 = .ok (.astore 4, 2) := by decide +kernel
theorem dX8_guess_7 : decode cX8_guess 7 = .ok (.aload 4, 2) := by decide +kernel
theorem dX8_guess_9 : decode cX8_guess 9 = .ok (.ifnull 22, 3) := by decide +kernel
theorem dX8_guess_12 : decode cX8_guess 12 = .ok (.aload 4, 2) := by decide +kernel
theorem dX8_guess_14 : decode cX8_guess 14 = .ok (.getfield 44, 3) := by decide +kernel
theorem dX8_guess_17 : decode cX8_guess 17 = .ok (.iload_n 2, 1) := by decide +kernel
theorem dX8_guess_18 : decode cX8_guess 18 = .ok (.invokevirtual 62, 3) := by decide +kernel
theorem dX8_guess_21 : decode cX8_guess 21 = .ok (.ifCond .eq 10, 3) := by decide +kernel
theorem dX8_guess_24 : decode cX8_guess 24 = .ok (.iload_n 3, 1) := by decide +kernel
theorem dX8_guess_25 : decode cX8_guess 25 = .ok (.invokestatic 54, 3) := by decide +kernel
theorem dX8_guess_28 : decode cX8_guess 28 = .ok (.ifCond .ne 5, 3) := by decide +kernel
theorem dX8_guess_31 : decode cX8_guess 31 = .ok (.iconst 0, 1) := by decide +kernel
theorem dX8_guess_32 : decode cX8_guess 32 = .ok (.ireturn, 1) := by decide +kernel
theorem dX8_guess_33 : decode cX8_guess 33 = .ok (.aload 4, 2) := by decide +kernel
theorem dX8_guess_35 : decode cX8_guess 35 = .ok (.getfield 44, 3) := by decide +kernel
theorem dX8_guess_38 : decode cX8_guess 38 = .ok (.getfield 65, 3) := by decide +kernel
theorem dX8_guess_41 : decode cX8_guess 41 = .ok (.iload_n 2, 1) := by decide +kernel
theorem dX8_guess_42 : decode cX8_guess 42 = .ok (.iload_n 3, 1) := by decide +kernel
theorem dX8_guess_43 : decode cX8_guess 43 = .ok (.iastore, 1) := by decide +kernel
theorem dX8_guess_44 : decode cX8_guess 44 = .ok (.iconst 1, 1) := by decide +kernel
theorem dX8_guess_45 : decode cX8_guess 45 = .ok (.ireturn, 1) := by decide +kernel
def f_X8_guess (nr : Nat) (a1 : Int32) (a2 : Int32) (a3 : Int32) (H : Hp) : Option (Int32 × Hp) := bnd (f_X8_routineAt a1 H) (fun w2 H1 => nz nr w2 (some (0, H1)) (fun r3 => bnd (f_X3_hasEdge r3 a2 H1) (fun w5 H4 => if w5 = 0 then some (0, H4) else bnd (f_X8_isCount a3 H4) (fun w8 H7 => if w8 = 0 then some (0, H7) else gd a2 40 (hl (sI H7 (r3 + 2) 15 (Int32.toNatClampNeg a2) a3) (fun (H10 : Hp) => some (1, H10)))))))
set_option maxRecDepth 100000 in
set_option maxHeartbeats 4000000 in
theorem s_X8_guess {p : Program} {l : Launch} {e : Env} {s : State} {m : MethodId} {args : Array Value} {below : List Frame} {meth : Method} {c : Code} {A : Nat → Prop} {D : va_G} {K4 : kQ} {ad : Nat → Nat → Nat} {nr : Nat} {a1 : Int32} {a2 : Int32} {a3 : Int32} {H : Hp} {res : Int32 × Hp} (hC : Cx p s m args c A s.heap D K4 5 RX8 cX8_guess) (hret : meth.sig.returnType = (some .boolean) ∧ meth.locks = false) (h : f_X8_guess nr a1 a2 a3 H = some res) : V p l e ({ frames := 1, cells := 0, slots := 0, locals := 21 }) s m args below meth c A s.heap (QI below args s A D K4 ad nr res) D K4 ad nr 5 0 [(0, .ref (ad 1 0)), (1, .int a1), (2, .int a2), (3, .int a3)] [] H := by
  unfold f_X8_guess at h
  refine V_aload_n hC 0 dX8_guess_0 rfl ?_
  refine V_iload_n hC 1 dX8_guess_1 rfl ?_
  obtain ⟨w2, H1, hc, h⟩ := bnd_some h
  refine V_callq (g := 1) (k := 0) (As := [.int a1]) (st := []) hC (c_X8_routineAt l hc) rfl ml_X8_37 ⟨Nat.le_of_ble_eq_true rfl, Nat.le_of_ble_eq_true rfl⟩ rfl rfl rfl (Nat.le_of_ble_eq_true rfl) dX8_guess_2 ?_
  refine V_astoreq (lv' := [(4, vr ad w2), (0, .ref (ad 1 0)), (1, .int a1), (2, .int a2), (3, .int a3)]) hC dX8_guess_5 (Nat.le_of_ble_eq_true rfl) rfl ?_
  refine V_aloadq hC 0 dX8_guess_7 rfl ?_
  replace h := nz_some h
  rcases h with ⟨rfl, h⟩ | ⟨r3, rfl, hr_r3, h⟩
  · refine V_ifnullN (tgt := 31) hC dX8_guess_9 (by decide) ?_
    refine V_iconst (v := 0) hC dX8_guess_31 (by decide) ?_
    exact V_zret hC hret (by decide) dX8_guess_32 h
  · refine V_ifnullS (r := r3) hC dX8_guess_9 ?_
    refine V_aload hC 0 dX8_guess_12 rfl ?_
    refine V_getR (g := (r3 + 2)) (k := 0) (g' := (r3 + 2)) (k' := 1) hC 2 1 fl_X8_44 (okR hr_r3 rfl) rfl rfl rfl dX8_guess_14 ?_
    refine V_iload_n hC 3 dX8_guess_17 rfl ?_
    obtain ⟨w5, H4, hc, h⟩ := bnd_some h
    refine V_calli (g := (r3 + 2)) (k := 1) (As := [.int a2]) (st := []) hC (c_X3_hasEdge l (hr_r := hr_r3) hc) rfl ml_X8_62 ⟨Nat.le_of_ble_eq_true rfl, Nat.le_of_ble_eq_true rfl⟩ (okR hr_r3 rfl) rfl rfl (Nat.le_of_ble_eq_true rfl) dX8_guess_18 ?_
    refine V_if_eq (tgt := 31) hC dX8_guess_21 (by decide) (fun c6 => ?_) (fun c6 => ?_)
    · replace h := it_pos c6 h
      refine V_iconst (v := 0) hC dX8_guess_31 (by decide) ?_
      exact V_zret hC hret (by decide) dX8_guess_32 h
    · replace h := it_neg c6 h
      refine V_iload_n hC 4 dX8_guess_24 rfl ?_
      obtain ⟨w8, H7, hc, h⟩ := bnd_some h
      refine V_callsi (As := [.int a3]) (st := []) hC (c_X8_isCount l hc) rfl ml_X8_54 ⟨Nat.le_of_ble_eq_true rfl, Nat.le_of_ble_eq_true rfl⟩ rfl (Nat.le_of_ble_eq_true rfl) dX8_guess_25 ?_
      refine V_if_ne (tgt := 33) hC dX8_guess_28 (by decide) (fun c9 => ?_) (fun c9 => ?_)
      · replace h := it_neg c9 h
        refine V_aload hC 0 dX8_guess_33 rfl ?_
        refine V_getR (g := (r3 + 2)) (k := 0) (g' := (r3 + 2)) (k' := 1) hC 2 1 fl_X8_44 (okR hr_r3 rfl) rfl rfl rfl dX8_guess_35 ?_
        refine V_getR (g := (r3 + 2)) (k := 1) (g' := (r3 + 2)) (k' := 15) hC 3 7 fl_X8_65 (okR hr_r3 rfl) rfl rfl rfl dX8_guess_38 ?_
        refine V_iload_n hC 3 dX8_guess_41 rfl ?_
        refine V_iload_n hC 4 dX8_guess_42 rfl ?_
        obtain ⟨hi, h⟩ := gd_some h
        refine V_iast (g := (r3 + 2)) (k := 15) hC (okR hr_r3 rfl) rfl hi dX8_guess_43 ?_
        refine V_hl h (fun H10 h => ?_)
        refine V_iconst (v := 1) hC dX8_guess_44 (by decide) ?_
        exact V_zret hC hret (by decide) dX8_guess_45 h
      · replace h := it_pos c9 h
        refine V_iconst (v := 0) hC dX8_guess_31 (by decide) ?_
        exact V_zret hC hret (by decide) dX8_guess_32 h
theorem c_X8_guess (l : Launch) {nr : Nat} {a1 : Int32} {a2 : Int32} {a3 : Int32} {H : Hp} {x : Int32} {H' : Hp} (h : f_X8_guess nr a1 a2 a3 H = some (x, H')) : CI l nr yX8_guess cX8_guess 5 (some .boolean) 1 21 (fun ad => [.ref (ad 1 0), .int a1, .int a2, .int a3]) H x H' := by
  intro D K4 ad sz
  refine Met.ofV (by decide) (Nat.le_of_ble_eq_true rfl) ?_
  intro p e s m args below meth c hC hret hsz
  subst hsz
  exact s_X8_guess hC hret h
theorem dX8_finish_0 : decode cX8_finish 0 = .ok (.aload_n 0, 1) := by decide +kernel
theorem dX8_finish_1 : decode cX8_finish 1 = .ok (.iload_n 1, 1) := by decide +kernel
theorem dX8_finish_2 : decode cX8_finish 2 = .ok (.invokevirtual 37, 3) := by decide +kernel
theorem dX8_finish_5 : decode cX8_finish 5 = .ok (.astore_n 2, 1) := by decide +kernel
theorem dX8_finish_6 : decode cX8_finish 6 = .ok (.aload_n 2, 1) := by decide +kernel
theorem dX8_finish_7 : decode cX8_finish 7 = .ok (.ifnonnull 7, 3) := by decide +kernel
theorem dX8_finish_10 : decode cX8_finish 10 = .ok (.iconst (-1), 1) := by decide +kernel
theorem dX8_finish_11 : decode cX8_finish 11 = .ok (.goto 7, 3) := by decide +kernel
theorem dX8_finish_14 : decode cX8_finish 14 = .ok (.aload_n 2, 1) := by decide +kernel
theorem dX8_finish_15 : decode cX8_finish 15 = .ok (.invokevirtual 69, 3) := by decide +kernel
theorem dX8_finish_18 : decode cX8_finish 18 = .ok (.ireturn, 1) := by decide +kernel
def f_X8_finish (nr : Nat) (a1 : Int32) (H : Hp) : Option (Int32 × Hp) := bnd (f_X8_routineAt a1 H) (fun w2 H1 => nz nr w2 (some ((-1), H1)) (fun r3 => bnd (f_X2_settle r3 H1) (fun w5 H4 => some (w5, H4))))
set_option maxRecDepth 100000 in
set_option maxHeartbeats 4000000 in
theorem s_X8_finish {p : Program} {l : Launch} {e : Env} {s : State} {m : MethodId} {args : Array Value} {below : List Frame} {meth : Method} {c : Code} {A : Nat → Prop} {D : va_G} {K4 : kQ} {ad : Nat → Nat → Nat} {nr : Nat} {a1 : Int32} {H : Hp} {res : Int32 × Hp} (hC : Cx p s m args c A s.heap D K4 3 RX8 cX8_finish) (hret : meth.sig.returnType = (some .int) ∧ meth.locks = false) (h : f_X8_finish nr a1 H = some res) : V p l e ({ frames := 5, cells := 0, slots := 0, locals := 110 }) s m args below meth c A s.heap (QI below args s A D K4 ad nr res) D K4 ad nr 3 0 [(0, .ref (ad 1 0)), (1, .int a1)] [] H := by
  unfold f_X8_finish at h
  refine V_aload_n hC 0 dX8_finish_0 rfl ?_
  refine V_iload_n hC 1 dX8_finish_1 rfl ?_
  obtain ⟨w2, H1, hc, h⟩ := bnd_some h
  refine V_callq (g := 1) (k := 0) (As := [.int a1]) (st := []) hC (c_X8_routineAt l hc) rfl ml_X8_37 ⟨Nat.le_of_ble_eq_true rfl, Nat.le_of_ble_eq_true rfl⟩ rfl rfl rfl (Nat.le_of_ble_eq_true rfl) dX8_finish_2 ?_
  refine V_astoreq_n (lv' := [(2, vr ad w2), (0, .ref (ad 1 0)), (1, .int a1)]) hC dX8_finish_5 (Nat.le_of_ble_eq_true rfl) rfl ?_
  refine V_aloadq_n hC 0 dX8_finish_6 rfl ?_
  replace h := nz_some h
  rcases h with ⟨rfl, h⟩ | ⟨r3, rfl, hr_r3, h⟩
  · refine V_ifnonnullN hC dX8_finish_7 ?_
    refine V_iconst (v := -1) hC dX8_finish_10 (by decide) ?_
    refine V_goto (tgt := 18) hC dX8_finish_11 (by decide) ?_
    exact V_iret hC hret dX8_finish_18 h
  · refine V_ifnonnullS (r := r3) (tgt := 14) hC dX8_finish_7 (by decide) ?_
    refine V_aload_n hC 0 dX8_finish_14 rfl ?_
    obtain ⟨w5, H4, hc, h⟩ := bnd_some h
    refine V_calli (g := (r3 + 2)) (k := 0) (As := []) (st := []) hC (c_X2_settle l (hr_r := hr_r3) hc) rfl ml_X8_69 ⟨Nat.le_of_ble_eq_true rfl, Nat.le_of_ble_eq_true rfl⟩ (okR hr_r3 rfl) rfl rfl (Nat.le_of_ble_eq_true rfl) dX8_finish_15 ?_
    exact V_iret hC hret dX8_finish_18 h
theorem c_X8_finish (l : Launch) {nr : Nat} {a1 : Int32} {H : Hp} {x : Int32} {H' : Hp} (h : f_X8_finish nr a1 H = some (x, H')) : CI l nr yX8_finish cX8_finish 3 (some .int) 5 110 (fun ad => [.ref (ad 1 0), .int a1]) H x H' := by
  intro D K4 ad sz
  refine Met.ofV (by decide) (Nat.le_of_ble_eq_true rfl) ?_
  intro p e s m args below meth c hC hret hsz
  subst hsz
  exact s_X8_finish hC hret h
theorem dX8_plan_0 : decode cX8_plan 0 = .ok (.aload_n 0, 1) := by decide +kernel
theorem dX8_plan_1 : decode cX8_plan 1 = .ok (.iload_n 1, 1) := by decide +kernel
theorem dX8_plan_2 : decode cX8_plan 2 = .ok (.invokevirtual 73, 3) := by decide +kernel
theorem dX8_plan_5 : decode cX8_plan 5 = .ok (.astore_n 2, 1) := by decide +kernel
theorem dX8_plan_6 : decode cX8_plan 6 = .ok (.aload_n 2, 1) := by decide +kernel
theorem dX8_plan_7 : decode cX8_plan 7 = .ok (.ifnull 14, 3) := by decide +kernel
theorem dX8_plan_10 : decode cX8_plan 10 = .ok (.aload_n 0, 1) := by decide +kernel
theorem dX8_plan_11 : decode cX8_plan 11 = .ok (.getfield 18, 3) := by decide +kernel
theorem dX8_plan_14 : decode cX8_plan 14 = .ok (.iload_n 1, 1) := by decide +kernel
theorem dX8_plan_15 : decode cX8_plan 15 = .ok (.invokevirtual 76, 3) := by decide +kernel
theorem dX8_plan_18 : decode cX8_plan 18 = .ok (.ifCond .eq 5, 3) := by decide +kernel
theorem dX8_plan_21 : decode cX8_plan 21 = .ok (.iconst (-1), 1) := by decide +kernel
theorem dX8_plan_22 : decode cX8_plan 22 = .ok (.ireturn, 1) := by decide +kernel
theorem dX8_plan_23 : decode cX8_plan 23 = .ok (.aload_n 2, 1) := by decide +kernel
theorem dX8_plan_24 : decode cX8_plan 24 = .ok (.invokevirtual 79, 3) := by decide +kernel
theorem dX8_plan_27 : decode cX8_plan 27 = .ok (.aload_n 2, 1) := by decide +kernel
theorem dX8_plan_28 : decode cX8_plan 28 = .ok (.getfield 82, 3) := by decide +kernel
theorem dX8_plan_31 : decode cX8_plan 31 = .ok (.getfield 86, 3) := by decide +kernel
theorem dX8_plan_34 : decode cX8_plan 34 = .ok (.ireturn, 1) := by decide +kernel
def f_X8_plan (nr : Nat) (a1 : Int32) (H : Hp) : Option (Int32 × Hp) := bnd (f_X8_finishedAt nr a1 H) (fun w2 H1 => nz nr w2 (some ((-1), H1)) (fun r3 => bnd (f_X6_hasFrameOf nr a1 H1) (fun w5 H4 => if w5 = 0 then bnd (f_X2_planAnew r3 H4) (fun w8 H7 => some ((gI H7 (r3 + 2) 3 10), H7)) else some ((-1), H4))))
set_option maxRecDepth 100000 in
set_option maxHeartbeats 4000000 in
theorem s_X8_plan {p : Program} {l : Launch} {e : Env} {s : State} {m : MethodId} {args : Array Value} {below : List Frame} {meth : Method} {c : Code} {A : Nat → Prop} {D : va_G} {K4 : kQ} {ad : Nat → Nat → Nat} {nr : Nat} {a1 : Int32} {H : Hp} {res : Int32 × Hp} (hC : Cx p s m args c A s.heap D K4 3 RX8 cX8_plan) (hret : meth.sig.returnType = (some .int) ∧ meth.locks = false) (h : f_X8_plan nr a1 H = some res) : V p l e ({ frames := 4, cells := 0, slots := 0, locals := 89 }) s m args below meth c A s.heap (QI below args s A D K4 ad nr res) D K4 ad nr 3 0 [(0, .ref (ad 1 0)), (1, .int a1)] [] H := by
  unfold f_X8_plan at h
  refine V_aload_n hC 0 dX8_plan_0 rfl ?_
  refine V_iload_n hC 1 dX8_plan_1 rfl ?_
  obtain ⟨w2, H1, hc, h⟩ := bnd_some h
  refine V_callq (g := 1) (k := 0) (As := [.int a1]) (st := []) hC (c_X8_finishedAt l hc) rfl ml_X8_73 ⟨Nat.le_of_ble_eq_true rfl, Nat.le_of_ble_eq_true rfl⟩ rfl rfl rfl (Nat.le_of_ble_eq_true rfl) dX8_plan_2 ?_
  refine V_astoreq_n (lv' := [(2, vr ad w2), (0, .ref (ad 1 0)), (1, .int a1)]) hC dX8_plan_5 (Nat.le_of_ble_eq_true rfl) rfl ?_
  refine V_aloadq_n hC 0 dX8_plan_6 rfl ?_
  replace h := nz_some h
  rcases h with ⟨rfl, h⟩ | ⟨r3, rfl, hr_r3, h⟩
  · refine V_ifnullN (tgt := 21) hC dX8_plan_7 (by decide) ?_
    refine V_iconst (v := -1) hC dX8_plan_21 (by decide) ?_
    exact V_iret hC hret dX8_plan_22 h
  · refine V_ifnullS (r := r3) hC dX8_plan_7 ?_
    refine V_aload_n hC 1 dX8_plan_10 rfl ?_
    refine V_getR (g := 1) (k := 0) (g' := 1) (k' := 2) hC 8 1 fl_X8_18 rfl rfl rfl rfl dX8_plan_11 ?_
    refine V_iload_n hC 2 dX8_plan_14 rfl ?_
    obtain ⟨w5, H4, hc, h⟩ := bnd_some h
    refine V_calli (g := 1) (k := 2) (As := [.int a1]) (st := []) hC (c_X6_hasFrameOf l hc) rfl ml_X8_76 ⟨Nat.le_of_ble_eq_true rfl, Nat.le_of_ble_eq_true rfl⟩ rfl rfl rfl (Nat.le_of_ble_eq_true rfl) dX8_plan_15 ?_
    refine V_if_eq (tgt := 23) hC dX8_plan_18 (by decide) (fun c6 => ?_) (fun c6 => ?_)
    · replace h := it_pos c6 h
      refine V_aload_n hC 0 dX8_plan_23 rfl ?_
      obtain ⟨w8, H7, hc, h⟩ := bnd_some h
      refine V_callu (g := (r3 + 2)) (k := 0) (As := []) (st := []) hC (c_X2_planAnew l (hr_r := hr_r3) hc) rfl ml_X8_79 ⟨Nat.le_of_ble_eq_true rfl, Nat.le_of_ble_eq_true rfl⟩ (okR hr_r3 rfl) rfl rfl (Nat.le_of_ble_eq_true rfl) dX8_plan_24 ?_
      refine V_aload_n hC 0 dX8_plan_27 rfl ?_
      refine V_getR (g := (r3 + 2)) (k := 0) (g' := (r3 + 2)) (k' := 3) hC 2 3 fl_X8_82 (okR hr_r3 rfl) rfl rfl rfl dX8_plan_28 ?_
      refine V_getI (g := (r3 + 2)) (k := 3) hC 5 10 fl_X8_86 (okR hr_r3 rfl) rfl rfl dX8_plan_31 ?_
      exact V_iret hC hret dX8_plan_34 h
    · replace h := it_neg c6 h
      refine V_iconst (v := -1) hC dX8_plan_21 (by decide) ?_
      exact V_iret hC hret dX8_plan_22 h
theorem c_X8_plan (l : Launch) {nr : Nat} {a1 : Int32} {H : Hp} {x : Int32} {H' : Hp} (h : f_X8_plan nr a1 H = some (x, H')) : CI l nr yX8_plan cX8_plan 3 (some .int) 4 89 (fun ad => [.ref (ad 1 0), .int a1]) H x H' := by
  intro D K4 ad sz
  refine Met.ofV (by decide) (Nat.le_of_ble_eq_true rfl) ?_
  intro p e s m args below meth c hC hret hsz
  subst hsz
  exact s_X8_plan hC hret h
theorem dX8_solve_0 : decode cX8_solve 0 = .ok (.aload_n 0, 1) := by decide +kernel
theorem dX8_solve_1 : decode cX8_solve 1 = .ok (.iload_n 1, 1) := by decide +kernel
theorem dX8_solve_2 : decode cX8_solve 2 = .ok (.iload_n 2, 1) := by decide +kernel
theorem dX8_solve_3 : decode cX8_solve 3 = .ok (.invokevirtual 134, 3) := by decide +kernel
theorem dX8_solve_6 : decode cX8_solve 6 = .ok (.astore_n 3, 1) := by decide +kernel
theorem dX8_solve_7 : decode cX8_solve 7 = .ok (.aload_n 3, 1) := by decide +kernel
theorem dX8_solve_8 : decode cX8_solve 8 = .ok (.ifnonnull 9, 3) := by decide +kernel
theorem dX8_solve_11 : decode cX8_solve 11 = .ok (.ldc2_w 138, 3) := by decide +kernel
theorem dX8_solve_14 : decode cX8_solve 14 = .ok (.goto 12, 3) := by decide +kernel
theorem dX8_solve_17 : decode cX8_solve 17 = .ok (.aload_n 3, 1) := by decide +kernel
theorem dX8_solve_18 : decode cX8_solve 18 = .ok (.iload_n 2, 1) := by decide +kernel
theorem dX8_solve_19 : decode cX8_solve 19 = .ok (.aload_n 0, 1) := by decide +kernel
theorem dX8_solve_20 : decode cX8_solve 20 = .ok (.getfield 18, 3) := by decide +kernel
theorem dX8_solve_23 : decode cX8_solve 23 = .ok (.invokevirtual 140, 3) := by decide +kernel
theorem dX8_solve_26 : decode cX8_solve 26 = .ok (.lreturn, 1) := by decide +kernel
def f_X8_solve (nr : Nat) (a1 : Int32) (a2 : Int32) (H : Hp) : Option (Int64 × Hp) := bnd (f_X8_finishedWithEdge nr a1 a2 H) (fun w2 H1 => nz nr w2 (some ((-1), H1)) (fun r3 => bnd (f_X2_rebuiltCount nr r3 a2 H1) (fun w5 H4 => some (w5, H4))))
set_option maxRecDepth 100000 in
set_option maxHeartbeats 4000000 in
theorem s_X8_solve {p : Program} {l : Launch} {e : Env} {s : State} {m : MethodId} {args : Array Value} {below : List Frame} {meth : Method} {c : Code} {A : Nat → Prop} {D : va_G} {K4 : kQ} {ad : Nat → Nat → Nat} {nr : Nat} {a1 : Int32} {a2 : Int32} {H : Hp} {res : Int64 × Hp} (hC : Cx p s m args c A s.heap D K4 4 RX8 cX8_solve) (hret : meth.sig.returnType = (some .long) ∧ meth.locks = false) (h : f_X8_solve nr a1 a2 H = some res) : V p l e ({ frames := 3, cells := 0, slots := 0, locals := 71 }) s m args below meth c A s.heap (QJ below args s A D K4 ad nr res) D K4 ad nr 4 0 [(0, .ref (ad 1 0)), (1, .int a1), (2, .int a2)] [] H := by
  unfold f_X8_solve at h
  refine V_aload_n hC 0 dX8_solve_0 rfl ?_
  refine V_iload_n hC 1 dX8_solve_1 rfl ?_
  refine V_iload_n hC 2 dX8_solve_2 rfl ?_
  obtain ⟨w2, H1, hc, h⟩ := bnd_some h
  refine V_callq (g := 1) (k := 0) (As := [.int a1, .int a2]) (st := []) hC (c_X8_finishedWithEdge l hc) rfl ml_X8_134 ⟨Nat.le_of_ble_eq_true rfl, Nat.le_of_ble_eq_true rfl⟩ rfl rfl rfl (Nat.le_of_ble_eq_true rfl) dX8_solve_3 ?_
  refine V_astoreq_n (lv' := [(3, vr ad w2), (0, .ref (ad 1 0)), (1, .int a1), (2, .int a2)]) hC dX8_solve_6 (Nat.le_of_ble_eq_true rfl) rfl ?_
  refine V_aloadq_n hC 0 dX8_solve_7 rfl ?_
  replace h := nz_some h
  rcases h with ⟨rfl, h⟩ | ⟨r3, rfl, hr_r3, h⟩
  · refine V_ifnonnullN hC dX8_solve_8 ?_
    refine V_ldc2 hC dX8_solve_11 cl_X8_138 ?_
    refine V_goto (tgt := 26) hC dX8_solve_14 (by decide) ?_
    exact V_lret hC hret dX8_solve_26 h
  · refine V_ifnonnullS (r := r3) (tgt := 17) hC dX8_solve_8 (by decide) ?_
    refine V_aload_n hC 0 dX8_solve_17 rfl ?_
    refine V_iload_n hC 3 dX8_solve_18 rfl ?_
    refine V_aload_n hC 1 dX8_solve_19 rfl ?_
    refine V_getR (g := 1) (k := 0) (g' := 1) (k' := 2) hC 8 1 fl_X8_18 rfl rfl rfl rfl dX8_solve_20 ?_
    obtain ⟨w5, H4, hc, h⟩ := bnd_some h
    refine V_calll (g := (r3 + 2)) (k := 0) (As := [.int a2, .ref (ad 1 2)]) (st := []) hC (c_X2_rebuiltCount l (hr_r := hr_r3) hc) rfl ml_X8_140 ⟨Nat.le_of_ble_eq_true rfl, Nat.le_of_ble_eq_true rfl⟩ (okR hr_r3 rfl) rfl rfl (Nat.le_of_ble_eq_true rfl) dX8_solve_23 ?_
    exact V_lret hC hret dX8_solve_26 h
theorem c_X8_solve (l : Launch) {nr : Nat} {a1 : Int32} {a2 : Int32} {H : Hp} {x : Int64} {H' : Hp} (h : f_X8_solve nr a1 a2 H = some (x, H')) : CJ l nr yX8_solve cX8_solve 4 (some .long) 3 71 (fun ad => [.ref (ad 1 0), .int a1, .int a2]) H x H' := by
  intro D K4 ad sz
  refine Met.ofV (by decide) (Nat.le_of_ble_eq_true rfl) ?_
  intro p e s m args below meth c hC hret hsz
  subst hsz
  exact s_X8_solve hC hret h
theorem dX8_ring_0 : decode cX8_ring 0 = .ok (.aload_n 0, 1) := by decide +kernel
theorem dX8_ring_1 : decode cX8_ring 1 = .ok (.iload_n 1, 1) := by decide +kernel
theorem dX8_ring_2 : decode cX8_ring 2 = .ok (.iload_n 3, 1) := by decide +kernel
theorem dX8_ring_3 : decode cX8_ring 3 = .ok (.invokevirtual 134, 3) := by decide +kernel
theorem dX8_ring_6 : decode cX8_ring 6 = .ok (.astore 4, 2) := by decide +kernel
theorem dX8_ring_8 : decode cX8_ring 8 = .ok (.aload 4, 2) := by decide +kernel
theorem dX8_ring_10 : decode cX8_ring 10 = .ok (.ifnull 12, 3) := by decide +kernel
theorem dX8_ring_13 : decode cX8_ring 13 = .ok (.aload 4, 2) := by decide +kernel
theorem dX8_ring_15 : decode cX8_ring 15 = .ok (.iload_n 2, 1) := by decide +kernel
theorem dX8_ring_16 : decode cX8_ring 16 = .ok (.invokevirtual 144, 3) := by decide +kernel
theorem dX8_ring_19 : decode cX8_ring 19 = .ok (.ifCond .ne 5, 3) := by decide +kernel
theorem dX8_ring_22 : decode cX8_ring 22 = .ok (.iconst (-1), 1) := by decide +kernel
theorem dX8_ring_23 : decode cX8_ring 23 = .ok (.ireturn, 1) := by decide +kernel
theorem dX8_ring_24 : decode cX8_ring 24 = .ok (.aload 4, 2) := by decide +kernel
theorem dX8_ring_26 : decode cX8_ring 26 = .ok (.getfield 82, 3) := by decide +kernel
theorem dX8_ring_29 : decode cX8_ring 29 = .ok (.iload_n 2, 1) := by decide +kernel
theorem dX8_ring_30 : decode cX8_ring 30 = .ok (.iload_n 3, 1) := by decide +kernel
theorem dX8_ring_31 : decode cX8_ring 31 = .ok (.invokevirtual 147, 3) := by decide +kernel
theorem dX8_ring_34 : decode cX8_ring 34 = .ok (.ireturn, 1) := by decide +kernel
def f_X8_ring (nr : Nat) (a1 : Int32) (a2 : Int32) (a3 : Int32) (H : Hp) : Option (Int32 × Hp) := bnd (f_X8_finishedWithEdge nr a1 a3 H) (fun w2 H1 => nz nr w2 (some ((-1), H1)) (fun r3 => bnd (f_X2_hasCounter r3 a2 H1) (fun w5 H4 => if w5 = 0 then some ((-1), H4) else bnd (f_X5_placeInRing r3 a2 a3 H4) (fun w8 H7 => some (w8, H7)))))
set_option maxRecDepth 100000 in
set_option maxHeartbeats 4000000 in
theorem s_X8_ring {p : Program} {l : Launch} {e : Env} {s : State} {m : MethodId} {args : Array Value} {below : List Frame} {meth : Method} {c : Code} {A : Nat → Prop} {D : va_G} {K4 : kQ} {ad : Nat → Nat → Nat} {nr : Nat} {a1 : Int32} {a2 : Int32} {a3 : Int32} {H : Hp} {res : Int32 × Hp} (hC : Cx p s m args c A s.heap D K4 5 RX8 cX8_ring) (hret : meth.sig.returnType = (some .int) ∧ meth.locks = false) (h : f_X8_ring nr a1 a2 a3 H = some res) : V p l e ({ frames := 3, cells := 0, slots := 0, locals := 70 }) s m args below meth c A s.heap (QI below args s A D K4 ad nr res) D K4 ad nr 5 0 [(0, .ref (ad 1 0)), (1, .int a1), (2, .int a2), (3, .int a3)] [] H := by
  unfold f_X8_ring at h
  refine V_aload_n hC 0 dX8_ring_0 rfl ?_
  refine V_iload_n hC 1 dX8_ring_1 rfl ?_
  refine V_iload_n hC 3 dX8_ring_2 rfl ?_
  obtain ⟨w2, H1, hc, h⟩ := bnd_some h
  refine V_callq (g := 1) (k := 0) (As := [.int a1, .int a3]) (st := []) hC (c_X8_finishedWithEdge l hc) rfl ml_X8_134 ⟨Nat.le_of_ble_eq_true rfl, Nat.le_of_ble_eq_true rfl⟩ rfl rfl rfl (Nat.le_of_ble_eq_true rfl) dX8_ring_3 ?_
  refine V_astoreq (lv' := [(4, vr ad w2), (0, .ref (ad 1 0)), (1, .int a1), (2, .int a2), (3, .int a3)]) hC dX8_ring_6 (Nat.le_of_ble_eq_true rfl) rfl ?_
  refine V_aloadq hC 0 dX8_ring_8 rfl ?_
  replace h := nz_some h
  rcases h with ⟨rfl, h⟩ | ⟨r3, rfl, hr_r3, h⟩
  · refine V_ifnullN (tgt := 22) hC dX8_ring_10 (by decide) ?_
    refine V_iconst (v := -1) hC dX8_ring_22 (by decide) ?_
    exact V_iret hC hret dX8_ring_23 h
  · refine V_ifnullS (r := r3) hC dX8_ring_10 ?_
    refine V_aload hC 0 dX8_ring_13 rfl ?_
    refine V_iload_n hC 3 dX8_ring_15 rfl ?_
    obtain ⟨w5, H4, hc, h⟩ := bnd_some h
    refine V_calli (g := (r3 + 2)) (k := 0) (As := [.int a2]) (st := []) hC (c_X2_hasCounter l (hr_r := hr_r3) hc) rfl ml_X8_144 ⟨Nat.le_of_ble_eq_true rfl, Nat.le_of_ble_eq_true rfl⟩ (okR hr_r3 rfl) rfl rfl (Nat.le_of_ble_eq_true rfl) dX8_ring_16 ?_
    refine V_if_ne (tgt := 24) hC dX8_ring_19 (by decide) (fun c6 => ?_) (fun c6 => ?_)
    · replace h := it_neg c6 h
      refine V_aload hC 0 dX8_ring_24 rfl ?_
      refine V_getR (g := (r3 + 2)) (k := 0) (g' := (r3 + 2)) (k' := 3) hC 2 3 fl_X8_82 (okR hr_r3 rfl) rfl rfl rfl dX8_ring_26 ?_
      refine V_iload_n hC 3 dX8_ring_29 rfl ?_
      refine V_iload_n hC 4 dX8_ring_30 rfl ?_
      obtain ⟨w8, H7, hc, h⟩ := bnd_some h
      refine V_calli (g := (r3 + 2)) (k := 3) (As := [.int a2, .int a3]) (st := []) hC (c_X5_placeInRing l (hr_r := hr_r3) hc) rfl ml_X8_147 ⟨Nat.le_of_ble_eq_true rfl, Nat.le_of_ble_eq_true rfl⟩ (okR hr_r3 rfl) rfl rfl (Nat.le_of_ble_eq_true rfl) dX8_ring_31 ?_
      exact V_iret hC hret dX8_ring_34 h
    · replace h := it_pos c6 h
      refine V_iconst (v := -1) hC dX8_ring_22 (by decide) ?_
      exact V_iret hC hret dX8_ring_23 h
theorem c_X8_ring (l : Launch) {nr : Nat} {a1 : Int32} {a2 : Int32} {a3 : Int32} {H : Hp} {x : Int32} {H' : Hp} (h : f_X8_ring nr a1 a2 a3 H = some (x, H')) : CI l nr yX8_ring cX8_ring 5 (some .int) 3 70 (fun ad => [.ref (ad 1 0), .int a1, .int a2, .int a3]) H x H' := by
  intro D K4 ad sz
  refine Met.ofV (by decide) (Nat.le_of_ble_eq_true rfl) ?_
  intro p e s m args below meth c hC hret hsz
  subst hsz
  exact s_X8_ring hC hret h
theorem dX8_begin_0 : decode cX8_begin 0 = .ok (.aload_n 0, 1) := by decide +kernel
theorem dX8_begin_1 : decode cX8_begin 1 = .ok (.iload_n 1, 1) := by decide +kernel
theorem dX8_begin_2 : decode cX8_begin 2 = .ok (.invokevirtual 73, 3) := by decide +kernel
theorem dX8_begin_5 : decode cX8_begin 5 = .ok (.astore_n 2, 1) := by decide +kernel
theorem dX8_begin_6 : decode cX8_begin 6 = .ok (.aload_n 2, 1) := by decide +kernel
theorem dX8_begin_7 : decode cX8_begin 7 = .ok (.ifnonnull 5, 3) := by decide +kernel
theorem dX8_begin_10 : decode cX8_begin 10 = .ok (.iconst 0, 1) := by decide +kernel
theorem dX8_begin_11 : decode cX8_begin 11 = .ok (.ireturn, 1) := by decide +kernel
theorem dX8_begin_12 : decode cX8_begin 12 = .ok (.aload_n 0, 1) := by decide +kernel
theorem dX8_begin_13 : decode cX8_begin 13 = .ok (.getfield 18, 3) := by decide +kernel
theorem dX8_begin_16 : decode cX8_begin 16 = .ok (.aload_n 2, 1) := by decide +kernel
theorem dX8_begin_17 : decode cX8_begin 17 = .ok (.invokevirtual 150, 3) := by decide +kernel
theorem dX8_begin_20 : decode cX8_begin 20 = .ok (.iconst 1, 1) := by decide +kernel
theorem dX8_begin_21 : decode cX8_begin 21 = .ok (.ireturn, 1) := by decide +kernel
def f_X8_begin (nr : Nat) (a1 : Int32) (H : Hp) : Option (Int32 × Hp) := bnd (f_X8_finishedAt nr a1 H) (fun w2 H1 => nz nr w2 (some (0, H1)) (fun r3 => bnd (f_X6_startIn nr r3 H1) (fun w5 H4 => some (1, H4))))
set_option maxRecDepth 100000 in
set_option maxHeartbeats 4000000 in
theorem s_X8_begin {p : Program} {l : Launch} {e : Env} {s : State} {m : MethodId} {args : Array Value} {below : List Frame} {meth : Method} {c : Code} {A : Nat → Prop} {D : va_G} {K4 : kQ} {ad : Nat → Nat → Nat} {nr : Nat} {a1 : Int32} {H : Hp} {res : Int32 × Hp} (hC : Cx p s m args c A s.heap D K4 3 RX8 cX8_begin) (hret : meth.sig.returnType = (some .boolean) ∧ meth.locks = false) (h : f_X8_begin nr a1 H = some res) : V p l e ({ frames := 3, cells := 0, slots := 0, locals := 63 }) s m args below meth c A s.heap (QI below args s A D K4 ad nr res) D K4 ad nr 3 0 [(0, .ref (ad 1 0)), (1, .int a1)] [] H := by
  unfold f_X8_begin at h
  refine V_aload_n hC 0 dX8_begin_0 rfl ?_
  refine V_iload_n hC 1 dX8_begin_1 rfl ?_
  obtain ⟨w2, H1, hc, h⟩ := bnd_some h
  refine V_callq (g := 1) (k := 0) (As := [.int a1]) (st := []) hC (c_X8_finishedAt l hc) rfl ml_X8_73 ⟨Nat.le_of_ble_eq_true rfl, Nat.le_of_ble_eq_true rfl⟩ rfl rfl rfl (Nat.le_of_ble_eq_true rfl) dX8_begin_2 ?_
  refine V_astoreq_n (lv' := [(2, vr ad w2), (0, .ref (ad 1 0)), (1, .int a1)]) hC dX8_begin_5 (Nat.le_of_ble_eq_true rfl) rfl ?_
  refine V_aloadq_n hC 0 dX8_begin_6 rfl ?_
  replace h := nz_some h
  rcases h with ⟨rfl, h⟩ | ⟨r3, rfl, hr_r3, h⟩
  · refine V_ifnonnullN hC dX8_begin_7 ?_
    refine V_iconst (v := 0) hC dX8_begin_10 (by decide) ?_
    exact V_zret hC hret (by decide) dX8_begin_11 h
  · refine V_ifnonnullS (r := r3) (tgt := 12) hC dX8_begin_7 (by decide) ?_
    refine V_aload_n hC 1 dX8_begin_12 rfl ?_
    refine V_getR (g := 1) (k := 0) (g' := 1) (k' := 2) hC 8 1 fl_X8_18 rfl rfl rfl rfl dX8_begin_13 ?_
    refine V_aload_n hC 0 dX8_begin_16 rfl ?_
    obtain ⟨w5, H4, hc, h⟩ := bnd_some h
    refine V_callu (g := 1) (k := 2) (As := [.ref (ad (r3 + 2) 0)]) (st := []) hC (c_X6_startIn l (hr_r := hr_r3) hc) rfl ml_X8_150 ⟨Nat.le_of_ble_eq_true rfl, Nat.le_of_ble_eq_true rfl⟩ rfl rfl rfl (Nat.le_of_ble_eq_true rfl) dX8_begin_17 ?_
    refine V_iconst (v := 1) hC dX8_begin_20 (by decide) ?_
    exact V_zret hC hret (by decide) dX8_begin_21 h
theorem c_X8_begin (l : Launch) {nr : Nat} {a1 : Int32} {H : Hp} {x : Int32} {H' : Hp} (h : f_X8_begin nr a1 H = some (x, H')) : CI l nr yX8_begin cX8_begin 3 (some .boolean) 3 63 (fun ad => [.ref (ad 1 0), .int a1]) H x H' := by
  intro D K4 ad sz
  refine Met.ofV (by decide) (Nat.le_of_ble_eq_true rfl) ?_
  intro p e s m args below meth c hC hret hsz
  subst hsz
  exact s_X8_begin hC hret h
theorem dX8_go_0 : decode cX8_go 0 = .ok (.iload_n 1, 1) := by decide +kernel
theorem dX8_go_1 : decode cX8_go 1 = .ok (.iconst 1, 1) := by decide +kernel
theorem dX8_go_2 : decode cX8_go 2 = .ok (.if_icmp .lt 21, 3) := by decide +kernel
theorem dX8_go_5 : decode cX8_go 5 = .ok (.iload_n 1, 1) := by decide +kernel
theorem dX8_go_6 : decode cX8_go 6 = .ok (.sipush 10000, 3) := by decide +kernel
theorem dX8_go_9 : decode cX8_go 9 = .ok (.if_icmp .gt 14, 3) := by decide +kernel
theorem dX8_go_12 : decode cX8_go 12 = .ok (.aload_n 0, 1) := by decide +kernel
theorem dX8_go_13 : decode cX8_go 13 = .ok (.getfield 18, 3) := by decide +kernel
theorem dX8_go_16 : decode cX8_go 16 = .ok (.getfield 154, 3) := by decide +kernel
theorem dX8_go_19 : decode cX8_go 19 = .ok (.iconst 1, 1) := by decide +kernel
theorem dX8_go_20 : decode cX8_go 20 = .ok (.if_icmp .eq 5, 3) := by decide +kernel
theorem dX8_go_23 : decode cX8_go 23 = .ok (.iconst (-1), 1) := by decide +kernel
theorem dX8_go_24 : decode cX8_go 24 = .ok (.ireturn, 1) := by decide +kernel
theorem dX8_go_25 : decode cX8_go 25 = .ok (.aload_n 0, 1) := by decide +kernel
theorem dX8_go_26 : decode cX8_go 26 = .ok (.getfield 18, 3) := by decide +kernel
theorem dX8_go_29 : decode cX8_go 29 = .ok (.iload_n 1, 1) := by decide +kernel
theorem dX8_go_30 : decode cX8_go 30 = .ok (.iload_n 2, 1) := by decide +kernel
theorem dX8_go_31 : decode cX8_go 31 = .ok (.aload_n 0, 1) := by decide +kernel
theorem dX8_go_32 : decode cX8_go 32 = .ok (.getfield 11, 3) := by decide +kernel
theorem dX8_go_35 : decode cX8_go 35 = .ok (.invokevirtual 157, 3) := by decide +kernel
theorem dX8_go_38 : decode cX8_go 38 = .ok (.ireturn, 1) := by decide +kernel
def f_X8_go (nr : Nat) (a1 : Int32) (a2 : Int32) (H : Hp) : Option (Int32 × Hp) := if a1 < 1 then some ((-1), H) else if 10000 < a1 then some ((-1), H) else if (gI H 1 2 4) = 1 then bnd (f_X6_stepOn nr a1 a2 H) (fun w5 H4 => some (w5, H4)) else some ((-1), H)
set_option maxRecDepth 100000 in
set_option maxHeartbeats 4000000 in
theorem s_X8_go {p : Program} {l : Launch} {e : Env} {s : State} {m : MethodId} {args : Array Value} {below : List Frame} {meth : Method} {c : Code} {A : Nat → Prop} {D : va_G} {K4 : kQ} {ad : Nat → Nat → Nat} {nr : Nat} {a1 : Int32} {a2 : Int32} {H : Hp} {res : Int32 × Hp} (hC : Cx p s m args c A s.heap D K4 3 RX8 cX8_go) (hret : meth.sig.returnType = (some .int) ∧ meth.locks = false) (h : f_X8_go nr a1 a2 H = some res) : V p l e ({ frames := 5, cells := 0, slots := 0, locals := 116 }) s m args below meth c A s.heap (QI below args s A D K4 ad nr res) D K4 ad nr 3 0 [(0, .ref (ad 1 0)), (1, .int a1), (2, .int a2)] [] H := by
  unfold f_X8_go at h
  refine V_iload_n hC 1 dX8_go_0 rfl ?_
  refine V_iconst (v := 1) hC dX8_go_1 (by decide) ?_
  refine V_icmp_lt (tgt := 23) hC dX8_go_2 (by decide) (fun c1 => ?_) (fun c1 => ?_)
  · replace h := it_pos c1 h
    refine V_iconst (v := -1) hC dX8_go_23 (by decide) ?_
    exact V_iret hC hret dX8_go_24 h
  · replace h := it_neg c1 h
    refine V_iload_n hC 1 dX8_go_5 rfl ?_
    refine V_sipush (v := 10000) hC dX8_go_6 (by decide) ?_
    refine V_icmp_gt (tgt := 23) hC dX8_go_9 (by decide) (fun c2 => ?_) (fun c2 => ?_)
    · replace h := it_pos c2 h
      refine V_iconst (v := -1) hC dX8_go_23 (by decide) ?_
      exact V_iret hC hret dX8_go_24 h
    · replace h := it_neg c2 h
      refine V_aload_n hC 0 dX8_go_12 rfl ?_
      refine V_getR (g := 1) (k := 0) (g' := 1) (k' := 2) hC 8 1 fl_X8_18 rfl rfl rfl rfl dX8_go_13 ?_
      refine V_getI (g := 1) (k := 2) hC 6 4 fl_X8_154 rfl rfl rfl dX8_go_16 ?_
      refine V_iconst (v := 1) hC dX8_go_19 (by decide) ?_
      refine V_icmp_eq (tgt := 25) hC dX8_go_20 (by decide) (fun c3 => ?_) (fun c3 => ?_)
      · replace h := it_pos c3 h
        refine V_aload_n hC 0 dX8_go_25 rfl ?_
        refine V_getR (g := 1) (k := 0) (g' := 1) (k' := 2) hC 8 1 fl_X8_18 rfl rfl rfl rfl dX8_go_26 ?_
        refine V_iload_n hC 1 dX8_go_29 rfl ?_
        refine V_iload_n hC 2 dX8_go_30 rfl ?_
        refine V_aload_n hC 0 dX8_go_31 rfl ?_
        refine V_getR (g := 1) (k := 0) (g' := 1) (k' := 1) hC 8 0 fl_X8_11 rfl rfl rfl rfl dX8_go_32 ?_
        obtain ⟨w5, H4, hc, h⟩ := bnd_some h
        refine V_calli (g := 1) (k := 2) (As := [.int a1, .int a2, .ref (ad 1 1)]) (st := []) hC (c_X6_stepOn l hc) rfl ml_X8_157 ⟨Nat.le_of_ble_eq_true rfl, Nat.le_of_ble_eq_true rfl⟩ rfl rfl rfl (Nat.le_of_ble_eq_true rfl) dX8_go_35 ?_
        exact V_iret hC hret dX8_go_38 h
      · replace h := it_neg c3 h
        refine V_iconst (v := -1) hC dX8_go_23 (by decide) ?_
        exact V_iret hC hret dX8_go_24 h
theorem c_X8_go (l : Launch) {nr : Nat} {a1 : Int32} {a2 : Int32} {H : Hp} {x : Int32} {H' : Hp} (h : f_X8_go nr a1 a2 H = some (x, H')) : CI l nr yX8_go cX8_go 3 (some .int) 5 116 (fun ad => [.ref (ad 1 0), .int a1, .int a2]) H x H' := by
  intro D K4 ad sz
  refine Met.ofV (by decide) (Nat.le_of_ble_eq_true rfl) ?_
  intro p e s m args below meth c hC hret hsz
  subst hsz
  exact s_X8_go hC hret h
theorem dX8_run_0 : decode cX8_run 0 = .ok (.aload_n 0, 1) := by decide +kernel
theorem dX8_run_1 : decode cX8_run 1 = .ok (.getfield 18, 3) := by decide +kernel
theorem dX8_run_4 : decode cX8_run 4 = .ok (.iload_n 1, 1) := by decide +kernel
theorem dX8_run_5 : decode cX8_run 5 = .ok (.invokevirtual 161, 3) := by decide +kernel
theorem dX8_run_8 : decode cX8_run 8 = .ok (.ireturn, 1) := by decide +kernel
def f_X8_run (nr : Nat) (a1 : Int32) (H : Hp) : Option (Int32 × Hp) := bnd (f_X6_ofRun nr a1 H) (fun w2 H1 => some (w2, H1))
set_option maxRecDepth 100000 in
set_option maxHeartbeats 4000000 in
theorem s_X8_run {p : Program} {l : Launch} {e : Env} {s : State} {m : MethodId} {args : Array Value} {below : List Frame} {meth : Method} {c : Code} {A : Nat → Prop} {D : va_G} {K4 : kQ} {ad : Nat → Nat → Nat} {nr : Nat} {a1 : Int32} {H : Hp} {res : Int32 × Hp} (hC : Cx p s m args c A s.heap D K4 2 RX8 cX8_run) (hret : meth.sig.returnType = (some .int) ∧ meth.locks = false) (h : f_X8_run nr a1 H = some res) : V p l e ({ frames := 2, cells := 0, slots := 0, locals := 42 }) s m args below meth c A s.heap (QI below args s A D K4 ad nr res) D K4 ad nr 2 0 [(0, .ref (ad 1 0)), (1, .int a1)] [] H := by
  unfold f_X8_run at h
  refine V_aload_n hC 0 dX8_run_0 rfl ?_
  refine V_getR (g := 1) (k := 0) (g' := 1) (k' := 2) hC 8 1 fl_X8_18 rfl rfl rfl rfl dX8_run_1 ?_
  refine V_iload_n hC 1 dX8_run_4 rfl ?_
  obtain ⟨w2, H1, hc, h⟩ := bnd_some h
  refine V_calli (g := 1) (k := 2) (As := [.int a1]) (st := []) hC (c_X6_ofRun l hc) rfl ml_X8_161 ⟨Nat.le_of_ble_eq_true rfl, Nat.le_of_ble_eq_true rfl⟩ rfl rfl rfl (Nat.le_of_ble_eq_true rfl) dX8_run_5 ?_
  exact V_iret hC hret dX8_run_8 h
theorem c_X8_run (l : Launch) {nr : Nat} {a1 : Int32} {H : Hp} {x : Int32} {H' : Hp} (h : f_X8_run nr a1 H = some (x, H')) : CI l nr yX8_run cX8_run 2 (some .int) 2 42 (fun ad => [.ref (ad 1 0), .int a1]) H x H' := by
  intro D K4 ad sz
  refine Met.ofV (by decide) (Nat.le_of_ble_eq_true rfl) ?_
  intro p e s m args below meth c hC hret hsz
  subst hsz
  exact s_X8_run hC hret h
theorem dX8_way_0 : decode cX8_way 0 = .ok (.aload_n 0, 1) := by decide +kernel
theorem dX8_way_1 : decode cX8_way 1 = .ok (.iload_n 1, 1) := by decide +kernel
theorem dX8_way_2 : decode cX8_way 2 = .ok (.invokevirtual 73, 3) := by decide +kernel
theorem dX8_way_5 : decode cX8_way 5 = .ok (.astore 5, 2) := by decide +kernel
theorem dX8_way_7 : decode cX8_way 7 = .ok (.aload 5, 2) := by decide +kernel
theorem dX8_way_9 : decode cX8_way 9 = .ok (.ifnull 15, 3) := by decide +kernel
theorem dX8_way_12 : decode cX8_way 12 = .ok (.aload 5, 2) := by decide +kernel
theorem dX8_way_14 : decode cX8_way 14 = .ok (.getfield 165, 3) := by decide +kernel
theorem dX8_way_17 : decode cX8_way 17 = .ok (.lload_n 2, 1) := by decide +kernel
theorem dX8_way_18 : decode cX8_way 18 = .ok (.invokevirtual 169, 3) := by decide +kernel
theorem dX8_way_21 : decode cX8_way 21 = .ok (.ifCond .ne 5, 3) := by decide +kernel
theorem dX8_way_24 : decode cX8_way 24 = .ok (.iconst (-1), 1) := by decide +kernel
theorem dX8_way_25 : decode cX8_way 25 = .ok (.ireturn, 1) := by decide +kernel
theorem dX8_way_26 : decode cX8_way 26 = .ok (.aload 5, 2) := by decide +kernel
theorem dX8_way_28 : decode cX8_way 28 = .ok (.getfield 165, 3) := by decide +kernel
theorem dX8_way_31 : decode cX8_way 31 = .ok (.iload 4, 2) := by decide +kernel
theorem dX8_way_33 : decode cX8_way 33 = .ok (.invokevirtual 175, 3) := by decide +kernel
theorem dX8_way_36 : decode cX8_way 36 = .ok (.ireturn, 1) := by decide +kernel
def f_X8_way (nr : Nat) (a1 : Int32) (a2 : Int64) (a3 : Int32) (H : Hp) : Option (Int32 × Hp) := bnd (f_X8_finishedAt nr a1 H) (fun w2 H1 => nz nr w2 (some ((-1), H1)) (fun r3 => bnd (f_X7_unfold r3 a2 H1) (fun w5 H4 => if w5 = 0 then some ((-1), H4) else bnd (f_X7_unfoldedBlock r3 a3 H4) (fun w8 H7 => some (w8, H7)))))
set_option maxRecDepth 100000 in
set_option maxHeartbeats 4000000 in
theorem s_X8_way {p : Program} {l : Launch} {e : Env} {s : State} {m : MethodId} {args : Array Value} {below : List Frame} {meth : Method} {c : Code} {A : Nat → Prop} {D : va_G} {K4 : kQ} {ad : Nat → Nat → Nat} {nr : Nat} {a1 : Int32} {a2 : Int64} {a3 : Int32} {H : Hp} {res : Int32 × Hp} (hC : Cx p s m args c A s.heap D K4 6 RX8 cX8_way) (hret : meth.sig.returnType = (some .int) ∧ meth.locks = false) (h : f_X8_way nr a1 a2 a3 H = some res) : V p l e ({ frames := 2, cells := 0, slots := 0, locals := 52 }) s m args below meth c A s.heap (QI below args s A D K4 ad nr res) D K4 ad nr 6 0 [(0, .ref (ad 1 0)), (1, .int a1), (2, .long a2), (4, .int a3)] [] H := by
  unfold f_X8_way at h
  refine V_aload_n hC 0 dX8_way_0 rfl ?_
  refine V_iload_n hC 1 dX8_way_1 rfl ?_
  obtain ⟨w2, H1, hc, h⟩ := bnd_some h
  refine V_callq (g := 1) (k := 0) (As := [.int a1]) (st := []) hC (c_X8_finishedAt l hc) rfl ml_X8_73 ⟨Nat.le_of_ble_eq_true rfl, Nat.le_of_ble_eq_true rfl⟩ rfl rfl rfl (Nat.le_of_ble_eq_true rfl) dX8_way_2 ?_
  refine V_astoreq (lv' := [(5, vr ad w2), (0, .ref (ad 1 0)), (1, .int a1), (2, .long a2), (4, .int a3)]) hC dX8_way_5 (Nat.le_of_ble_eq_true rfl) rfl ?_
  refine V_aloadq hC 0 dX8_way_7 rfl ?_
  replace h := nz_some h
  rcases h with ⟨rfl, h⟩ | ⟨r3, rfl, hr_r3, h⟩
  · refine V_ifnullN (tgt := 24) hC dX8_way_9 (by decide) ?_
    refine V_iconst (v := -1) hC dX8_way_24 (by decide) ?_
    exact V_iret hC hret dX8_way_25 h
  · refine V_ifnullS (r := r3) hC dX8_way_9 ?_
    refine V_aload hC 0 dX8_way_12 rfl ?_
    refine V_getR (g := (r3 + 2)) (k := 0) (g' := (r3 + 2)) (k' := 2) hC 2 2 fl_X8_165 (okR hr_r3 rfl) rfl rfl rfl dX8_way_14 ?_
    refine V_lload_n hC 3 dX8_way_17 rfl ?_
    obtain ⟨w5, H4, hc, h⟩ := bnd_some h
    refine V_calli (g := (r3 + 2)) (k := 2) (As := [.long a2]) (st := []) hC (c_X7_unfold l (hr_r := hr_r3) hc) rfl ml_X8_169 ⟨Nat.le_of_ble_eq_true rfl, Nat.le_of_ble_eq_true rfl⟩ (okR hr_r3 rfl) rfl rfl (Nat.le_of_ble_eq_true rfl) dX8_way_18 ?_
    refine V_if_ne (tgt := 26) hC dX8_way_21 (by decide) (fun c6 => ?_) (fun c6 => ?_)
    · replace h := it_neg c6 h
      refine V_aload hC 0 dX8_way_26 rfl ?_
      refine V_getR (g := (r3 + 2)) (k := 0) (g' := (r3 + 2)) (k' := 2) hC 2 2 fl_X8_165 (okR hr_r3 rfl) rfl rfl rfl dX8_way_28 ?_
      refine V_iload hC 4 dX8_way_31 rfl ?_
      obtain ⟨w8, H7, hc, h⟩ := bnd_some h
      refine V_calli (g := (r3 + 2)) (k := 2) (As := [.int a3]) (st := []) hC (c_X7_unfoldedBlock l (hr_r := hr_r3) hc) rfl ml_X8_175 ⟨Nat.le_of_ble_eq_true rfl, Nat.le_of_ble_eq_true rfl⟩ (okR hr_r3 rfl) rfl rfl (Nat.le_of_ble_eq_true rfl) dX8_way_33 ?_
      exact V_iret hC hret dX8_way_36 h
    · replace h := it_pos c6 h
      refine V_iconst (v := -1) hC dX8_way_24 (by decide) ?_
      exact V_iret hC hret dX8_way_25 h
theorem c_X8_way (l : Launch) {nr : Nat} {a1 : Int32} {a2 : Int64} {a3 : Int32} {H : Hp} {x : Int32} {H' : Hp} (h : f_X8_way nr a1 a2 a3 H = some (x, H')) : CI l nr yX8_way cX8_way 6 (some .int) 2 52 (fun ad => [.ref (ad 1 0), .int a1, .long a2, .int a3]) H x H' := by
  intro D K4 ad sz
  refine Met.ofV (by decide) (Nat.le_of_ble_eq_true rfl) ?_
  intro p e s m args below meth c hC hret hsz
  subst hsz
  exact s_X8_way hC hret h
theorem dX8_along_0 : decode cX8_along 0 = .ok (.aload_n 0, 1) := by decide +kernel
theorem dX8_along_1 : decode cX8_along 1 = .ok (.iload_n 1, 1) := by decide +kernel
theorem dX8_along_2 : decode cX8_along 2 = .ok (.invokevirtual 73, 3) := by decide +kernel
theorem dX8_along_5 : decode cX8_along 5 = .ok (.astore 5, 2) := by decide +kernel
theorem dX8_along_7 : decode cX8_along 7 = .ok (.aload 5, 2) := by decide +kernel
theorem dX8_along_9 : decode cX8_along 9 = .ok (.ifnull 15, 3) := by decide +kernel
theorem dX8_along_12 : decode cX8_along 12 = .ok (.aload 5, 2) := by decide +kernel
theorem dX8_along_14 : decode cX8_along 14 = .ok (.getfield 165, 3) := by decide +kernel
theorem dX8_along_17 : decode cX8_along 17 = .ok (.lload_n 2, 1) := by decide +kernel
theorem dX8_along_18 : decode cX8_along 18 = .ok (.invokevirtual 169, 3) := by decide +kernel
theorem dX8_along_21 : decode cX8_along 21 = .ok (.ifCond .ne 5, 3) := by decide +kernel
theorem dX8_along_24 : decode cX8_along 24 = .ok (.iconst (-1), 1) := by decide +kernel
theorem dX8_along_25 : decode cX8_along 25 = .ok (.ireturn, 1) := by decide +kernel
theorem dX8_along_26 : decode cX8_along 26 = .ok (.aload 5, 2) := by decide +kernel
theorem dX8_along_28 : decode cX8_along 28 = .ok (.getfield 165, 3) := by decide +kernel
theorem dX8_along_31 : decode cX8_along 31 = .ok (.iload 4, 2) := by decide +kernel
theorem dX8_along_33 : decode cX8_along 33 = .ok (.invokevirtual 178, 3) := by decide +kernel
theorem dX8_along_36 : decode cX8_along 36 = .ok (.ireturn, 1) := by decide +kernel
def f_X8_along (nr : Nat) (a1 : Int32) (a2 : Int64) (a3 : Int32) (H : Hp) : Option (Int32 × Hp) := bnd (f_X8_finishedAt nr a1 H) (fun w2 H1 => nz nr w2 (some ((-1), H1)) (fun r3 => bnd (f_X7_unfold r3 a2 H1) (fun w5 H4 => if w5 = 0 then some ((-1), H4) else bnd (f_X7_unfoldedEdge r3 a3 H4) (fun w8 H7 => some (w8, H7)))))
set_option maxRecDepth 100000 in
set_option maxHeartbeats 4000000 in
theorem s_X8_along {p : Program} {l : Launch} {e : Env} {s : State} {m : MethodId} {args : Array Value} {below : List Frame} {meth : Method} {c : Code} {A : Nat → Prop} {D : va_G} {K4 : kQ} {ad : Nat → Nat → Nat} {nr : Nat} {a1 : Int32} {a2 : Int64} {a3 : Int32} {H : Hp} {res : Int32 × Hp} (hC : Cx p s m args c A s.heap D K4 6 RX8 cX8_along) (hret : meth.sig.returnType = (some .int) ∧ meth.locks = false) (h : f_X8_along nr a1 a2 a3 H = some res) : V p l e ({ frames := 2, cells := 0, slots := 0, locals := 52 }) s m args below meth c A s.heap (QI below args s A D K4 ad nr res) D K4 ad nr 6 0 [(0, .ref (ad 1 0)), (1, .int a1), (2, .long a2), (4, .int a3)] [] H := by
  unfold f_X8_along at h
  refine V_aload_n hC 0 dX8_along_0 rfl ?_
  refine V_iload_n hC 1 dX8_along_1 rfl ?_
  obtain ⟨w2, H1, hc, h⟩ := bnd_some h
  refine V_callq (g := 1) (k := 0) (As := [.int a1]) (st := []) hC (c_X8_finishedAt l hc) rfl ml_X8_73 ⟨Nat.le_of_ble_eq_true rfl, Nat.le_of_ble_eq_true rfl⟩ rfl rfl rfl (Nat.le_of_ble_eq_true rfl) dX8_along_2 ?_
  refine V_astoreq (lv' := [(5, vr ad w2), (0, .ref (ad 1 0)), (1, .int a1), (2, .long a2), (4, .int a3)]) hC dX8_along_5 (Nat.le_of_ble_eq_true rfl) rfl ?_
  refine V_aloadq hC 0 dX8_along_7 rfl ?_
  replace h := nz_some h
  rcases h with ⟨rfl, h⟩ | ⟨r3, rfl, hr_r3, h⟩
  · refine V_ifnullN (tgt := 24) hC dX8_along_9 (by decide) ?_
    refine V_iconst (v := -1) hC dX8_along_24 (by decide) ?_
    exact V_iret hC hret dX8_along_25 h
  · refine V_ifnullS (r := r3) hC dX8_along_9 ?_
    refine V_aload hC 0 dX8_along_12 rfl ?_
    refine V_getR (g := (r3 + 2)) (k := 0) (g' := (r3 + 2)) (k' := 2) hC 2 2 fl_X8_165 (okR hr_r3 rfl) rfl rfl rfl dX8_along_14 ?_
    refine V_lload_n hC 3 dX8_along_17 rfl ?_
    obtain ⟨w5, H4, hc, h⟩ := bnd_some h
    refine V_calli (g := (r3 + 2)) (k := 2) (As := [.long a2]) (st := []) hC (c_X7_unfold l (hr_r := hr_r3) hc) rfl ml_X8_169 ⟨Nat.le_of_ble_eq_true rfl, Nat.le_of_ble_eq_true rfl⟩ (okR hr_r3 rfl) rfl rfl (Nat.le_of_ble_eq_true rfl) dX8_along_18 ?_
    refine V_if_ne (tgt := 26) hC dX8_along_21 (by decide) (fun c6 => ?_) (fun c6 => ?_)
    · replace h := it_neg c6 h
      refine V_aload hC 0 dX8_along_26 rfl ?_
      refine V_getR (g := (r3 + 2)) (k := 0) (g' := (r3 + 2)) (k' := 2) hC 2 2 fl_X8_165 (okR hr_r3 rfl) rfl rfl rfl dX8_along_28 ?_
      refine V_iload hC 4 dX8_along_31 rfl ?_
      obtain ⟨w8, H7, hc, h⟩ := bnd_some h
      refine V_calli (g := (r3 + 2)) (k := 2) (As := [.int a3]) (st := []) hC (c_X7_unfoldedEdge l (hr_r := hr_r3) hc) rfl ml_X8_178 ⟨Nat.le_of_ble_eq_true rfl, Nat.le_of_ble_eq_true rfl⟩ (okR hr_r3 rfl) rfl rfl (Nat.le_of_ble_eq_true rfl) dX8_along_33 ?_
      exact V_iret hC hret dX8_along_36 h
    · replace h := it_pos c6 h
      refine V_iconst (v := -1) hC dX8_along_24 (by decide) ?_
      exact V_iret hC hret dX8_along_25 h
theorem c_X8_along (l : Launch) {nr : Nat} {a1 : Int32} {a2 : Int64} {a3 : Int32} {H : Hp} {x : Int32} {H' : Hp} (h : f_X8_along nr a1 a2 a3 H = some (x, H')) : CI l nr yX8_along cX8_along 6 (some .int) 2 52 (fun ad => [.ref (ad 1 0), .int a1, .long a2, .int a3]) H x H' := by
  intro D K4 ad sz
  refine Met.ofV (by decide) (Nat.le_of_ble_eq_true rfl) ?_
  intro p e s m args below meth c hC hret hsz
  subst hsz
  exact s_X8_along hC hret h
theorem dX8_table_0 : decode cX8_table 0 = .ok (.aload_n 0, 1) := by decide +kernel
theorem dX8_table_1 : decode cX8_table 1 = .ok (.iload_n 1, 1) := by decide +kernel
theorem dX8_table_2 : decode cX8_table 2 = .ok (.invokevirtual 73, 3) := by decide +kernel
theorem dX8_table_5 : decode cX8_table 5 = .ok (.astore 4, 2) := by decide +kernel
theorem dX8_table_7 : decode cX8_table 7 = .ok (.aload 4, 2) := by decide +kernel
theorem dX8_table_9 : decode cX8_table 9 = .ok (.ifnonnull 9, 3) := by decide +kernel
theorem dX8_table_12 : decode cX8_table 12 = .ok (.ldc2_w 138, 3) := by decide +kernel
theorem dX8_table_15 : decode cX8_table 15 = .ok (.goto 13, 3) := by decide +kernel
theorem dX8_table_18 : decode cX8_table 18 = .ok (.aload 4, 2) := by decide +kernel
theorem dX8_table_20 : decode cX8_table 20 = .ok (.getfield 181, 3) := by decide +kernel
theorem dX8_table_23 : decode cX8_table 23 = .ok (.iload_n 2, 1) := by decide +kernel
theorem dX8_table_24 : decode cX8_table 24 = .ok (.iload_n 3, 1) := by decide +kernel
theorem dX8_table_25 : decode cX8_table 25 = .ok (.invokevirtual 185, 3) := by decide +kernel
theorem dX8_table_28 : decode cX8_table 28 = .ok (.lreturn, 1) := by decide +kernel
def f_X8_table (nr : Nat) (a1 : Int32) (a2 : Int32) (a3 : Int32) (H : Hp) : Option (Int64 × Hp) := bnd (f_X8_finishedAt nr a1 H) (fun w2 H1 => nz nr w2 (some ((-1), H1)) (fun r3 => bnd (f_X4_inRow r3 a2 a3 H1) (fun w5 H4 => some (w5, H4))))
set_option maxRecDepth 100000 in
set_option maxHeartbeats 4000000 in
theorem s_X8_table {p : Program} {l : Launch} {e : Env} {s : State} {m : MethodId} {args : Array Value} {below : List Frame} {meth : Method} {c : Code} {A : Nat → Prop} {D : va_G} {K4 : kQ} {ad : Nat → Nat → Nat} {nr : Nat} {a1 : Int32} {a2 : Int32} {a3 : Int32} {H : Hp} {res : Int64 × Hp} (hC : Cx p s m args c A s.heap D K4 5 RX8 cX8_table) (hret : meth.sig.returnType = (some .long) ∧ meth.locks = false) (h : f_X8_table nr a1 a2 a3 H = some res) : V p l e ({ frames := 2, cells := 0, slots := 0, locals := 43 }) s m args below meth c A s.heap (QJ below args s A D K4 ad nr res) D K4 ad nr 5 0 [(0, .ref (ad 1 0)), (1, .int a1), (2, .int a2), (3, .int a3)] [] H := by
  unfold f_X8_table at h
  refine V_aload_n hC 0 dX8_table_0 rfl ?_
  refine V_iload_n hC 1 dX8_table_1 rfl ?_
  obtain ⟨w2, H1, hc, h⟩ := bnd_some h
  refine V_callq (g := 1) (k := 0) (As := [.int a1]) (st := []) hC (c_X8_finishedAt l hc) rfl ml_X8_73 ⟨Nat.le_of_ble_eq_true rfl, Nat.le_of_ble_eq_true rfl⟩ rfl rfl rfl (Nat.le_of_ble_eq_true rfl) dX8_table_2 ?_
  refine V_astoreq (lv' := [(4, vr ad w2), (0, .ref (ad 1 0)), (1, .int a1), (2, .int a2), (3, .int a3)]) hC dX8_table_5 (Nat.le_of_ble_eq_true rfl) rfl ?_
  refine V_aloadq hC 0 dX8_table_7 rfl ?_
  replace h := nz_some h
  rcases h with ⟨rfl, h⟩ | ⟨r3, rfl, hr_r3, h⟩
  · refine V_ifnonnullN hC dX8_table_9 ?_
    refine V_ldc2 hC dX8_table_12 cl_X8_138 ?_
    refine V_goto (tgt := 28) hC dX8_table_15 (by decide) ?_
    exact V_lret hC hret dX8_table_28 h
  · refine V_ifnonnullS (r := r3) (tgt := 18) hC dX8_table_9 (by decide) ?_
    refine V_aload hC 0 dX8_table_18 rfl ?_
    refine V_getR (g := (r3 + 2)) (k := 0) (g' := (r3 + 2)) (k' := 5) hC 2 5 fl_X8_181 (okR hr_r3 rfl) rfl rfl rfl dX8_table_20 ?_
    refine V_iload_n hC 3 dX8_table_23 rfl ?_
    refine V_iload_n hC 4 dX8_table_24 rfl ?_
    obtain ⟨w5, H4, hc, h⟩ := bnd_some h
    refine V_calll (g := (r3 + 2)) (k := 5) (As := [.int a2, .int a3]) (st := []) hC (c_X4_inRow l (hr_r := hr_r3) hc) rfl ml_X8_185 ⟨Nat.le_of_ble_eq_true rfl, Nat.le_of_ble_eq_true rfl⟩ (okR hr_r3 rfl) rfl rfl (Nat.le_of_ble_eq_true rfl) dX8_table_25 ?_
    exact V_lret hC hret dX8_table_28 h
theorem c_X8_table (l : Launch) {nr : Nat} {a1 : Int32} {a2 : Int32} {a3 : Int32} {H : Hp} {x : Int64} {H' : Hp} (h : f_X8_table nr a1 a2 a3 H = some (x, H')) : CJ l nr yX8_table cX8_table 5 (some .long) 2 43 (fun ad => [.ref (ad 1 0), .int a1, .int a2, .int a3]) H x H' := by
  intro D K4 ad sz
  refine Met.ofV (by decide) (Nat.le_of_ble_eq_true rfl) ?_
  intro p e s m args below meth c hC hret hsz
  subst hsz
  exact s_X8_table hC hret h
theorem dX8_told_0 : decode cX8_told 0 = .ok (.aload_n 0, 1) := by decide +kernel
theorem dX8_told_1 : decode cX8_told 1 = .ok (.iload_n 1, 1) := by decide +kernel
theorem dX8_told_2 : decode cX8_told 2 = .ok (.iload_n 2, 1) := by decide +kernel
theorem dX8_told_3 : decode cX8_told 3 = .ok (.invokevirtual 134, 3) := by decide +kernel
theorem dX8_told_6 : decode cX8_told 6 = .ok (.astore_n 3, 1) := by decide +kernel
theorem dX8_told_7 : decode cX8_told 7 = .ok (.aload_n 3, 1) := by decide +kernel
theorem dX8_told_8 : decode cX8_told 8 = .ok (.ifnonnull 9, 3) := by decide +kernel
theorem dX8_told_11 : decode cX8_told 11 = .ok (.ldc2_w 138, 3) := by decide +kernel
theorem dX8_told_14 : decode cX8_told 14 = .ok (.goto 8, 3) := by decide +kernel
theorem dX8_told_17 : decode cX8_told 17 = .ok (.aload_n 3, 1) := by decide +kernel
theorem dX8_told_18 : decode cX8_told 18 = .ok (.iload_n 2, 1) := by decide +kernel
theorem dX8_told_19 : decode cX8_told 19 = .ok (.invokevirtual 190, 3) := by decide +kernel
theorem dX8_told_22 : decode cX8_told 22 = .ok (.lreturn, 1) := by decide +kernel
def f_X8_told (nr : Nat) (a1 : Int32) (a2 : Int32) (H : Hp) : Option (Int64 × Hp) := bnd (f_X8_finishedWithEdge nr a1 a2 H) (fun w2 H1 => nz nr w2 (some ((-1), H1)) (fun r3 => bnd (f_X2_toldCount r3 a2 H1) (fun w5 H4 => some (w5, H4))))
set_option maxRecDepth 100000 in
set_option maxHeartbeats 4000000 in
theorem s_X8_told {p : Program} {l : Launch} {e : Env} {s : State} {m : MethodId} {args : Array Value} {below : List Frame} {meth : Method} {c : Code} {A : Nat → Prop} {D : va_G} {K4 : kQ} {ad : Nat → Nat → Nat} {nr : Nat} {a1 : Int32} {a2 : Int32} {H : Hp} {res : Int64 × Hp} (hC : Cx p s m args c A s.heap D K4 4 RX8 cX8_told) (hret : meth.sig.returnType = (some .long) ∧ meth.locks = false) (h : f_X8_told nr a1 a2 H = some res) : V p l e ({ frames := 3, cells := 0, slots := 0, locals := 76 }) s m args below meth c A s.heap (QJ below args s A D K4 ad nr res) D K4 ad nr 4 0 [(0, .ref (ad 1 0)), (1, .int a1), (2, .int a2)] [] H := by
  unfold f_X8_told at h
  refine V_aload_n hC 0 dX8_told_0 rfl ?_
  refine V_iload_n hC 1 dX8_told_1 rfl ?_
  refine V_iload_n hC 2 dX8_told_2 rfl ?_
  obtain ⟨w2, H1, hc, h⟩ := bnd_some h
  refine V_callq (g := 1) (k := 0) (As := [.int a1, .int a2]) (st := []) hC (c_X8_finishedWithEdge l hc) rfl ml_X8_134 ⟨Nat.le_of_ble_eq_true rfl, Nat.le_of_ble_eq_true rfl⟩ rfl rfl rfl (Nat.le_of_ble_eq_true rfl) dX8_told_3 ?_
  refine V_astoreq_n (lv' := [(3, vr ad w2), (0, .ref (ad 1 0)), (1, .int a1), (2, .int a2)]) hC dX8_told_6 (Nat.le_of_ble_eq_true rfl) rfl ?_
  refine V_aloadq_n hC 0 dX8_told_7 rfl ?_
  replace h := nz_some h
  rcases h with ⟨rfl, h⟩ | ⟨r3, rfl, hr_r3, h⟩
  · refine V_ifnonnullN hC dX8_told_8 ?_
    refine V_ldc2 hC dX8_told_11 cl_X8_138 ?_
    refine V_goto (tgt := 22) hC dX8_told_14 (by decide) ?_
    exact V_lret hC hret dX8_told_22 h
  · refine V_ifnonnullS (r := r3) (tgt := 17) hC dX8_told_8 (by decide) ?_
    refine V_aload_n hC 0 dX8_told_17 rfl ?_
    refine V_iload_n hC 3 dX8_told_18 rfl ?_
    obtain ⟨w5, H4, hc, h⟩ := bnd_some h
    refine V_calll (g := (r3 + 2)) (k := 0) (As := [.int a2]) (st := []) hC (c_X2_toldCount l (hr_r := hr_r3) hc) rfl ml_X8_190 ⟨Nat.le_of_ble_eq_true rfl, Nat.le_of_ble_eq_true rfl⟩ (okR hr_r3 rfl) rfl rfl (Nat.le_of_ble_eq_true rfl) dX8_told_19 ?_
    exact V_lret hC hret dX8_told_22 h
theorem c_X8_told (l : Launch) {nr : Nat} {a1 : Int32} {a2 : Int32} {H : Hp} {x : Int64} {H' : Hp} (h : f_X8_told nr a1 a2 H = some (x, H')) : CJ l nr yX8_told cX8_told 4 (some .long) 3 76 (fun ad => [.ref (ad 1 0), .int a1, .int a2]) H x H' := by
  intro D K4 ad sz
  refine Met.ofV (by decide) (Nat.le_of_ble_eq_true rfl) ?_
  intro p e s m args below meth c hC hret hsz
  subst hsz
  exact s_X8_told hC hret h
theorem dX8_blur_0 : decode cX8_blur 0 = .ok (.aload_n 0, 1) := by decide +kernel
theorem dX8_blur_1 : decode cX8_blur 1 = .ok (.iload_n 1, 1) := by decide +kernel
theorem dX8_blur_2 : decode cX8_blur 2 = .ok (.invokevirtual 37, 3) := by decide +kernel
theorem dX8_blur_5 : decode cX8_blur 5 = .ok (.astore 4, 2) := by decide +kernel
theorem dX8_blur_7 : decode cX8_blur 7 = .ok (.aload 4, 2) := by decide +kernel
theorem dX8_blur_9 : decode cX8_blur 9 = .ok (.ifnull 22, 3) := by decide +kernel
theorem dX8_blur_12 : decode cX8_blur 12 = .ok (.aload 4, 2) := by decide +kernel
theorem dX8_blur_14 : decode cX8_blur 14 = .ok (.getfield 44, 3) := by decide +kernel
theorem dX8_blur_17 : decode cX8_blur 17 = .ok (.iload_n 2, 1) := by decide +kernel
theorem dX8_blur_18 : decode cX8_blur 18 = .ok (.invokevirtual 62, 3) := by decide +kernel
theorem dX8_blur_21 : decode cX8_blur 21 = .ok (.ifCond .eq 10, 3) := by decide +kernel
theorem dX8_blur_24 : decode cX8_blur 24 = .ok (.iload_n 3, 1) := by decide +kernel
theorem dX8_blur_25 : decode cX8_blur 25 = .ok (.invokestatic 54, 3) := by decide +kernel
theorem dX8_blur_28 : decode cX8_blur 28 = .ok (.ifCond .ne 5, 3) := by decide +kernel
theorem dX8_blur_31 : decode cX8_blur 31 = .ok (.iconst 0, 1) := by decide +kernel
theorem dX8_blur_32 : decode cX8_blur 32 = .ok (.ireturn, 1) := by decide +kernel
theorem dX8_blur_33 : decode cX8_blur 33 = .ok (.aload 4, 2) := by decide +kernel
theorem dX8_blur_35 : decode cX8_blur 35 = .ok (.getfield 193, 3) := by decide +kernel
theorem dX8_blur_38 : decode cX8_blur 38 = .ok (.iload_n 2, 1) := by decide +kernel
theorem dX8_blur_39 : decode cX8_blur 39 = .ok (.iload_n 3, 1) := by decide +kernel
theorem dX8_blur_40 : decode cX8_blur 40 = .ok (.iastore, 1) := by decide +kernel
theorem dX8_blur_41 : decode cX8_blur 41 = .ok (.iconst 1, 1) := by decide +kernel
theorem dX8_blur_42 : decode cX8_blur 42 = .ok (.ireturn, 1) := by decide +kernel
def f_X8_blur (nr : Nat) (a1 : Int32) (a2 : Int32) (a3 : Int32) (H : Hp) : Option (Int32 × Hp) := bnd (f_X8_routineAt a1 H) (fun w2 H1 => nz nr w2 (some (0, H1)) (fun r3 => bnd (f_X3_hasEdge r3 a2 H1) (fun w5 H4 => if w5 = 0 then some (0, H4) else bnd (f_X8_isCount a3 H4) (fun w8 H7 => if w8 = 0 then some (0, H7) else gd a2 40 (hl (sI H7 (r3 + 2) 6 (Int32.toNatClampNeg a2) a3) (fun (H10 : Hp) => some (1, H10)))))))
set_option maxRecDepth 100000 in
set_option maxHeartbeats 4000000 in
theorem s_X8_blur {p : Program} {l : Launch} {e : Env} {s : State} {m : MethodId} {args : Array Value} {below : List Frame} {meth : Method} {c : Code} {A : Nat → Prop} {D : va_G} {K4 : kQ} {ad : Nat → Nat → Nat} {nr : Nat} {a1 : Int32} {a2 : Int32} {a3 : Int32} {H : Hp} {res : Int32 × Hp} (hC : Cx p s m args c A s.heap D K4 5 RX8 cX8_blur) (hret : meth.sig.returnType = (some .boolean) ∧ meth.locks = false) (h : f_X8_blur nr a1 a2 a3 H = some res) : V p l e ({ frames := 1, cells := 0, slots := 0, locals := 21 }) s m args below meth c A s.heap (QI below args s A D K4 ad nr res) D K4 ad nr 5 0 [(0, .ref (ad 1 0)), (1, .int a1), (2, .int a2), (3, .int a3)] [] H := by
  unfold f_X8_blur at h
  refine V_aload_n hC 0 dX8_blur_0 rfl ?_
  refine V_iload_n hC 1 dX8_blur_1 rfl ?_
  obtain ⟨w2, H1, hc, h⟩ := bnd_some h
  refine V_callq (g := 1) (k := 0) (As := [.int a1]) (st := []) hC (c_X8_routineAt l hc) rfl ml_X8_37 ⟨Nat.le_of_ble_eq_true rfl, Nat.le_of_ble_eq_true rfl⟩ rfl rfl rfl (Nat.le_of_ble_eq_true rfl) dX8_blur_2 ?_
  refine V_astoreq (lv' := [(4, vr ad w2), (0, .ref (ad 1 0)), (1, .int a1), (2, .int a2), (3, .int a3)]) hC dX8_blur_5 (Nat.le_of_ble_eq_true rfl) rfl ?_
  refine V_aloadq hC 0 dX8_blur_7 rfl ?_
  replace h := nz_some h
  rcases h with ⟨rfl, h⟩ | ⟨r3, rfl, hr_r3, h⟩
  · refine V_ifnullN (tgt := 31) hC dX8_blur_9 (by decide) ?_
    refine V_iconst (v := 0) hC dX8_blur_31 (by decide) ?_
    exact V_zret hC hret (by decide) dX8_blur_32 h
  · refine V_ifnullS (r := r3) hC dX8_blur_9 ?_
    refine V_aload hC 0 dX8_blur_12 rfl ?_
    refine V_getR (g := (r3 + 2)) (k := 0) (g' := (r3 + 2)) (k' := 1) hC 2 1 fl_X8_44 (okR hr_r3 rfl) rfl rfl rfl dX8_blur_14 ?_
    refine V_iload_n hC 3 dX8_blur_17 rfl ?_
    obtain ⟨w5, H4, hc, h⟩ := bnd_some h
    refine V_calli (g := (r3 + 2)) (k := 1) (As := [.int a2]) (st := []) hC (c_X3_hasEdge l (hr_r := hr_r3) hc) rfl ml_X8_62 ⟨Nat.le_of_ble_eq_true rfl, Nat.le_of_ble_eq_true rfl⟩ (okR hr_r3 rfl) rfl rfl (Nat.le_of_ble_eq_true rfl) dX8_blur_18 ?_
    refine V_if_eq (tgt := 31) hC dX8_blur_21 (by decide) (fun c6 => ?_) (fun c6 => ?_)
    · replace h := it_pos c6 h
      refine V_iconst (v := 0) hC dX8_blur_31 (by decide) ?_
      exact V_zret hC hret (by decide) dX8_blur_32 h
    · replace h := it_neg c6 h
      refine V_iload_n hC 4 dX8_blur_24 rfl ?_
      obtain ⟨w8, H7, hc, h⟩ := bnd_some h
      refine V_callsi (As := [.int a3]) (st := []) hC (c_X8_isCount l hc) rfl ml_X8_54 ⟨Nat.le_of_ble_eq_true rfl, Nat.le_of_ble_eq_true rfl⟩ rfl (Nat.le_of_ble_eq_true rfl) dX8_blur_25 ?_
      refine V_if_ne (tgt := 33) hC dX8_blur_28 (by decide) (fun c9 => ?_) (fun c9 => ?_)
      · replace h := it_neg c9 h
        refine V_aload hC 0 dX8_blur_33 rfl ?_
        refine V_getR (g := (r3 + 2)) (k := 0) (g' := (r3 + 2)) (k' := 6) hC 2 6 fl_X8_193 (okR hr_r3 rfl) rfl rfl rfl dX8_blur_35 ?_
        refine V_iload_n hC 3 dX8_blur_38 rfl ?_
        refine V_iload_n hC 4 dX8_blur_39 rfl ?_
        obtain ⟨hi, h⟩ := gd_some h
        refine V_iast (g := (r3 + 2)) (k := 6) hC (okR hr_r3 rfl) rfl hi dX8_blur_40 ?_
        refine V_hl h (fun H10 h => ?_)
        refine V_iconst (v := 1) hC dX8_blur_41 (by decide) ?_
        exact V_zret hC hret (by decide) dX8_blur_42 h
      · replace h := it_pos c9 h
        refine V_iconst (v := 0) hC dX8_blur_31 (by decide) ?_
        exact V_zret hC hret (by decide) dX8_blur_32 h
theorem c_X8_blur (l : Launch) {nr : Nat} {a1 : Int32} {a2 : Int32} {a3 : Int32} {H : Hp} {x : Int32} {H' : Hp} (h : f_X8_blur nr a1 a2 a3 H = some (x, H')) : CI l nr yX8_blur cX8_blur 5 (some .boolean) 1 21 (fun ad => [.ref (ad 1 0), .int a1, .int a2, .int a3]) H x H' := by
  intro D K4 ad sz
  refine Met.ofV (by decide) (Nat.le_of_ble_eq_true rfl) ?_
  intro p e s m args below meth c hC hret hsz
  subst hsz
  exact s_X8_blur hC hret h
theorem dX8_mend_0 : decode cX8_mend 0 = .ok (.aload_n 0, 1) := by decide +kernel
theorem dX8_mend_1 : decode cX8_mend 1 = .ok (.iload_n 1, 1) := by decide +kernel
theorem dX8_mend_2 : decode cX8_mend 2 = .ok (.invokevirtual 73, 3) := by decide +kernel
theorem dX8_mend_5 : decode cX8_mend 5 = .ok (.astore_n 2, 1) := by decide +kernel
theorem dX8_mend_6 : decode cX8_mend 6 = .ok (.aload_n 2, 1) := by decide +kernel
theorem dX8_mend_7 : decode cX8_mend 7 = .ok (.ifnonnull 9, 3) := by decide +kernel
theorem dX8_mend_10 : decode cX8_mend 10 = .ok (.ldc2_w 138, 3) := by decide +kernel
theorem dX8_mend_13 : decode cX8_mend 13 = .ok (.goto 18, 3) := by decide +kernel
theorem dX8_mend_16 : decode cX8_mend 16 = .ok (.aload_n 0, 1) := by decide +kernel
theorem dX8_mend_17 : decode cX8_mend 17 = .ok (.getfield 25, 3) := by decide +kernel
theorem dX8_mend_20 : decode cX8_mend 20 = .ok (.aload_n 2, 1) := by decide +kernel
theorem dX8_mend_21 : decode cX8_mend 21 = .ok (.getfield 44, 3) := by decide +kernel
theorem dX8_mend_24 : decode cX8_mend 24 = .ok (.aload_n 2, 1) := by decide +kernel
theorem dX8_mend_25 : decode cX8_mend 25 = .ok (.getfield 193, 3) := by decide +kernel
theorem dX8_mend_28 : decode cX8_mend 28 = .ok (.invokevirtual 196, 3) := by decide +kernel
theorem dX8_mend_31 : decode cX8_mend 31 = .ok (.lreturn, 1) := by decide +kernel
def f_X8_mend (nr : Nat) (a1 : Int32) (H : Hp) : Option (Int64 × Hp) := bnd (f_X8_finishedAt nr a1 H) (fun w2 H1 => nz nr w2 (some ((-1), H1)) (fun r3 => bnd (f_X1_leastChange r3 H1) (fun w5 H4 => some (w5, H4))))
set_option maxRecDepth 100000 in
set_option maxHeartbeats 4000000 in
theorem s_X8_mend {p : Program} {l : Launch} {e : Env} {s : State} {m : MethodId} {args : Array Value} {below : List Frame} {meth : Method} {c : Code} {A : Nat → Prop} {D : va_G} {K4 : kQ} {ad : Nat → Nat → Nat} {nr : Nat} {a1 : Int32} {H : Hp} {res : Int64 × Hp} (hC : Cx p s m args c A s.heap D K4 3 RX8 cX8_mend) (hret : meth.sig.returnType = (some .long) ∧ meth.locks = false) (h : f_X8_mend nr a1 H = some res) : V p l e ({ frames := 3, cells := 0, slots := 0, locals := 76 }) s m args below meth c A s.heap (QJ below args s A D K4 ad nr res) D K4 ad nr 3 0 [(0, .ref (ad 1 0)), (1, .int a1)] [] H := by
  unfold f_X8_mend at h
  refine V_aload_n hC 0 dX8_mend_0 rfl ?_
  refine V_iload_n hC 1 dX8_mend_1 rfl ?_
  obtain ⟨w2, H1, hc, h⟩ := bnd_some h
  refine V_callq (g := 1) (k := 0) (As := [.int a1]) (st := []) hC (c_X8_finishedAt l hc) rfl ml_X8_73 ⟨Nat.le_of_ble_eq_true rfl, Nat.le_of_ble_eq_true rfl⟩ rfl rfl rfl (Nat.le_of_ble_eq_true rfl) dX8_mend_2 ?_
  refine V_astoreq_n (lv' := [(2, vr ad w2), (0, .ref (ad 1 0)), (1, .int a1)]) hC dX8_mend_5 (Nat.le_of_ble_eq_true rfl) rfl ?_
  refine V_aloadq_n hC 0 dX8_mend_6 rfl ?_
  replace h := nz_some h
  rcases h with ⟨rfl, h⟩ | ⟨r3, rfl, hr_r3, h⟩
  · refine V_ifnonnullN hC dX8_mend_7 ?_
    refine V_ldc2 hC dX8_mend_10 cl_X8_138 ?_
    refine V_goto (tgt := 31) hC dX8_mend_13 (by decide) ?_
    exact V_lret hC hret dX8_mend_31 h
  · refine V_ifnonnullS (r := r3) (tgt := 16) hC dX8_mend_7 (by decide) ?_
    refine V_aload_n hC 1 dX8_mend_16 rfl ?_
    refine V_getR (g := 1) (k := 0) (g' := 1) (k' := 3) hC 8 2 fl_X8_25 rfl rfl rfl rfl dX8_mend_17 ?_
    refine V_aload_n hC 0 dX8_mend_20 rfl ?_
    refine V_getR (g := (r3 + 2)) (k := 0) (g' := (r3 + 2)) (k' := 1) hC 2 1 fl_X8_44 (okR hr_r3 rfl) rfl rfl rfl dX8_mend_21 ?_
    refine V_aload_n hC 0 dX8_mend_24 rfl ?_
    refine V_getR (g := (r3 + 2)) (k := 0) (g' := (r3 + 2)) (k' := 6) hC 2 6 fl_X8_193 (okR hr_r3 rfl) rfl rfl rfl dX8_mend_25 ?_
    obtain ⟨w5, H4, hc, h⟩ := bnd_some h
    refine V_calll (g := 1) (k := 3) (As := [.ref (ad (r3 + 2) 1), .ref (ad (r3 + 2) 6)]) (st := []) hC (c_X1_leastChange l (hr_r := hr_r3) hc) rfl ml_X8_196 ⟨Nat.le_of_ble_eq_true rfl, Nat.le_of_ble_eq_true rfl⟩ rfl rfl rfl (Nat.le_of_ble_eq_true rfl) dX8_mend_28 ?_
    exact V_lret hC hret dX8_mend_31 h
theorem c_X8_mend (l : Launch) {nr : Nat} {a1 : Int32} {H : Hp} {x : Int64} {H' : Hp} (h : f_X8_mend nr a1 H = some (x, H')) : CJ l nr yX8_mend cX8_mend 3 (some .long) 3 76 (fun ad => [.ref (ad 1 0), .int a1]) H x H' := by
  intro D K4 ad sz
  refine Met.ofV (by decide) (Nat.le_of_ble_eq_true rfl) ?_
  intro p e s m args below meth c hC hret hsz
  subst hsz
  exact s_X8_mend hC hret h
