theorem dX9_thrown_0 : decode cX9_thrown 0 = .ok (.aload_n 0, 1) := by decide +kernel
theorem dX9_thrown_1 : decode cX9_thrown 1 = .ok (.getfield 153, 3) := by decide +kernel
theorem dX9_thrown_4 : decode cX9_thrown 4 = .ok (.ireturn, 1) := by decide +kernel
def f_X9_thrown (H : Hp) : Option (Int32 × Hp) := some ((gI H 0 0 34), H)
set_option maxRecDepth 100000 in
set_option maxHeartbeats 4000000 in
theorem s_X9_thrown {p : Program} {l : Launch} {e : Env} {s : State} {m : MethodId} {args : Array Value} {below : List Frame} {meth : Method} {c : Code} {A : Nat → Prop} {D : va_G} {K4 : kQ} {ad : Nat → Nat → Nat} {nr : Nat} {H : Hp} {res : Int32 × Hp} (hC : Cx p s m args c A s.heap D K4 1 RX9 cX9_thrown) (hret : meth.sig.returnType = (some .int) ∧ meth.locks = false) (h : f_X9_thrown H = some res) : V p l e ({ frames := 0, cells := 0, slots := 0, locals := 0 }) s m args below meth c A s.heap (QI below args s A D K4 ad nr res) D K4 ad nr 1 0 [(0, .ref (ad 0 0))] [] H := by
  unfold f_X9_thrown at h
  refine V_aload_n hC 0 dX9_thrown_0 rfl ?_
  refine V_getI (g := 0) (k := 0) hC 9 34 fl_X9_153 rfl rfl rfl dX9_thrown_1 ?_
  exact V_iret hC hret dX9_thrown_4 h
theorem c_X9_thrown (l : Launch) {nr : Nat} {H : Hp} {x : Int32} {H' : Hp} (h : f_X9_thrown H = some (x, H')) : CI l nr yX9_thrown cX9_thrown 1 (some .int) 0 0 (fun ad => [.ref (ad 0 0)]) H x H' := by
  intro D K4 ad sz
  refine Met.ofV (by decide) (Nat.le_of_ble_eq_true rfl) ?_
  intro p e s m args below meth c hC hret hsz
  subst hsz
  exact s_X9_thrown hC hret h
theorem dX9_isRoutine_0 : decode cX9_isRoutine 0 = .ok (.iload_n 1, 1) := by decide +kernel
theorem dX9_isRoutine_1 : decode cX9_isRoutine 1 = .ok (.ifCond .lt 15, 3) := by decide +kernel
theorem dX9_isRoutine_4 : decode cX9_isRoutine 4 = .ok (.iload_n 1, 1) := by decide +kernel
theorem dX9_isRoutine_5 : decode cX9_isRoutine 5 = .ok (.aload_n 0, 1) := by decide +kernel
theorem dX9_isRoutine_6 : decode cX9_isRoutine 6 = .ok (.getfield 157, 3) := by decide +kernel
theorem dX9_isRoutine_9 : decode cX9_isRoutine 9 = .ok (.if_icmp .ge 7, 3) := by decide +kernel
theorem dX9_isRoutine_12 : decode cX9_isRoutine 12 = .ok (.iconst 1, 1) := by decide +kernel
theorem dX9_isRoutine_13 : decode cX9_isRoutine 13 = .ok (.goto 4, 3) := by decide +kernel
theorem dX9_isRoutine_16 : decode cX9_isRoutine 16 = .ok (.iconst 0, 1) := by decide +kernel
theorem dX9_isRoutine_17 : decode cX9_isRoutine 17 = .ok (.ireturn, 1) := by decide +kernel
def f_X9_isRoutine (a1 : Int32) (H : Hp) : Option (Int32 × Hp) := if a1 < 0 then some (0, H) else if (gI H 0 0 0) ≤ a1 then some (0, H) else some (1, H)
set_option maxRecDepth 100000 in
set_option maxHeartbeats 4000000 in
theorem s_X9_isRoutine {p : Program} {l : Launch} {e : Env} {s : State} {m : MethodId} {args : Array Value} {below : List Frame} {meth : Method} {c : Code} {A : Nat → Prop} {D : va_G} {K4 : kQ} {ad : Nat → Nat → Nat} {nr : Nat} {a1 : Int32} {H : Hp} {res : Int32 × Hp} (hC : Cx p s m args c A s.heap D K4 2 RX9 cX9_isRoutine) (hret : meth.sig.returnType = (some .boolean) ∧ meth.locks = false) (h : f_X9_isRoutine a1 H = some res) : V p l e ({ frames := 0, cells := 0, slots := 0, locals := 0 }) s m args below meth c A s.heap (QI below args s A D K4 ad nr res) D K4 ad nr 2 0 [(0, .ref (ad 0 0)), (1, .int a1)] [] H := by
  unfold f_X9_isRoutine at h
  refine V_iload_n hC 1 dX9_isRoutine_0 rfl ?_
  refine V_if_lt (tgt := 16) hC dX9_isRoutine_1 (by decide) (fun c1 => ?_) (fun c1 => ?_)
  · have h := it_pos c1 h
    refine V_iconst (v := 0) hC dX9_isRoutine_16 (by decide) ?_
    exact V_zret hC hret (by decide) dX9_isRoutine_17 h
  · have h := it_neg c1 h
    refine V_iload_n hC 1 dX9_isRoutine_4 rfl ?_
    refine V_aload_n hC 0 dX9_isRoutine_5 rfl ?_
    refine V_getI (g := 0) (k := 0) hC 9 0 fl_X9_157 rfl rfl rfl dX9_isRoutine_6 ?_
    refine V_icmp_ge (tgt := 16) hC dX9_isRoutine_9 (by decide) (fun c2 => ?_) (fun c2 => ?_)
    · have h := it_pos c2 h
      refine V_iconst (v := 0) hC dX9_isRoutine_16 (by decide) ?_
      exact V_zret hC hret (by decide) dX9_isRoutine_17 h
    · have h := it_neg c2 h
      refine V_iconst (v := 1) hC dX9_isRoutine_12 (by decide) ?_
      refine V_goto (tgt := 17) hC dX9_isRoutine_13 (by decide) ?_
      exact V_zret hC hret (by decide) dX9_isRoutine_17 h
theorem c_X9_isRoutine (l : Launch) {nr : Nat} {a1 : Int32} {H : Hp} {x : Int32} {H' : Hp} (h : f_X9_isRoutine a1 H = some (x, H')) : CI l nr yX9_isRoutine cX9_isRoutine 2 (some .boolean) 0 0 (fun ad => [.ref (ad 0 0), .int a1]) H x H' := by
  intro D K4 ad sz
  refine Met.ofV (by decide) (Nat.le_of_ble_eq_true rfl) ?_
  intro p e s m args below meth c hC hret hsz
  subst hsz
  exact s_X9_isRoutine hC hret h
theorem dX9_isDone_0 : decode cX9_isDone 0 = .ok (.aload_n 0, 1) := by decide +kernel
theorem dX9_isDone_1 : decode cX9_isDone 1 = .ok (.iload_n 1, 1) := by decide +kernel
theorem dX9_isDone_2 : decode cX9_isDone 2 = .ok (.invokevirtual 160, 3) := by decide +kernel
theorem dX9_isDone_5 : decode cX9_isDone 5 = .ok (.ifCond .eq 16, 3) := by decide +kernel
theorem dX9_isDone_8 : decode cX9_isDone 8 = .ok (.aload_n 0, 1) := by decide +kernel
theorem dX9_isDone_9 : decode cX9_isDone 9 = .ok (.getfield 16, 3) := by decide +kernel
theorem dX9_isDone_12 : decode cX9_isDone 12 = .ok (.iload_n 1, 1) := by decide +kernel
theorem dX9_isDone_13 : decode cX9_isDone 13 = .ok (.baload, 1) := by decide +kernel
theorem dX9_isDone_14 : decode cX9_isDone 14 = .ok (.ifCond .eq 7, 3) := by decide +kernel
theorem dX9_isDone_17 : decode cX9_isDone 17 = .ok (.iconst 1, 1) := by decide +kernel
theorem dX9_isDone_18 : decode cX9_isDone 18 = .ok (.goto 4, 3) := by decide +kernel
theorem dX9_isDone_21 : decode cX9_isDone 21 = .ok (.iconst 0, 1) := by decide +kernel
theorem dX9_isDone_22 : decode cX9_isDone 22 = .ok (.ireturn, 1) := by decide +kernel
def f_X9_isDone (a1 : Int32) (H : Hp) : Option (Int32 × Hp) := bnd (f_X9_isRoutine a1 H) (fun w2 H1 => if w2 = 0 then some (0, H1) else gd a1 8 (if (gI H1 0 3 (Int32.toNatClampNeg a1)) = 0 then some (0, H1) else some (1, H1)))
set_option maxRecDepth 100000 in
set_option maxHeartbeats 4000000 in
theorem s_X9_isDone {p : Program} {l : Launch} {e : Env} {s : State} {m : MethodId} {args : Array Value} {below : List Frame} {meth : Method} {c : Code} {A : Nat → Prop} {D : va_G} {K4 : kQ} {ad : Nat → Nat → Nat} {nr : Nat} {a1 : Int32} {H : Hp} {res : Int32 × Hp} (hC : Cx p s m args c A s.heap D K4 2 RX9 cX9_isDone) (hret : meth.sig.returnType = (some .boolean) ∧ meth.locks = false) (h : f_X9_isDone a1 H = some res) : V p l e ({ frames := 1, cells := 0, slots := 0, locals := 21 }) s m args below meth c A s.heap (QI below args s A D K4 ad nr res) D K4 ad nr 2 0 [(0, .ref (ad 0 0)), (1, .int a1)] [] H := by
  unfold f_X9_isDone at h
  refine V_aload_n hC 0 dX9_isDone_0 rfl ?_
  refine V_iload_n hC 1 dX9_isDone_1 rfl ?_
  obtain ⟨w2, H1, hc, h⟩ := bnd_some h
  refine V_calli (g := 0) (k := 0) (As := [.int a1]) (st := []) hC (c_X9_isRoutine l hc) rfl ml_X9_160 ⟨Nat.le_of_ble_eq_true rfl, Nat.le_of_ble_eq_true rfl⟩ rfl rfl rfl (Nat.le_of_ble_eq_true rfl) dX9_isDone_2 ?_
  refine V_if_eq (tgt := 21) hC dX9_isDone_5 (by decide) (fun c3 => ?_) (fun c3 => ?_)
  · have h := it_pos c3 h
    refine V_iconst (v := 0) hC dX9_isDone_21 (by decide) ?_
    exact V_zret hC hret (by decide) dX9_isDone_22 h
  · have h := it_neg c3 h
    refine V_aload_n hC 0 dX9_isDone_8 rfl ?_
    refine V_getR (g := 0) (k := 0) (g' := 0) (k' := 3) hC 9 3 fl_X9_16 rfl rfl rfl rfl dX9_isDone_9 ?_
    refine V_iload_n hC 1 dX9_isDone_12 rfl ?_
    obtain ⟨hi, h⟩ := gd_some h
    refine V_zald (g := 0) (k := 3) hC rfl rfl hi dX9_isDone_13 ?_
    refine V_if_eq (tgt := 21) hC dX9_isDone_14 (by decide) (fun c4 => ?_) (fun c4 => ?_)
    · have h := it_pos c4 h
      refine V_iconst (v := 0) hC dX9_isDone_21 (by decide) ?_
      exact V_zret hC hret (by decide) dX9_isDone_22 h
    · have h := it_neg c4 h
      refine V_iconst (v := 1) hC dX9_isDone_17 (by decide) ?_
      refine V_goto (tgt := 22) hC dX9_isDone_18 (by decide) ?_
      exact V_zret hC hret (by decide) dX9_isDone_22 h
theorem c_X9_isDone (l : Launch) {nr : Nat} {a1 : Int32} {H : Hp} {x : Int32} {H' : Hp} (h : f_X9_isDone a1 H = some (x, H')) : CI l nr yX9_isDone cX9_isDone 2 (some .boolean) 1 21 (fun ad => [.ref (ad 0 0), .int a1]) H x H' := by
  intro D K4 ad sz
  refine Met.ofV (by decide) (Nat.le_of_ble_eq_true rfl) ?_
  intro p e s m args below meth c hC hret hsz
  subst hsz
  exact s_X9_isDone hC hret h
theorem dX9_isEdge_0 : decode cX9_isEdge 0 = .ok (.aload_n 0, 1) := by decide +kernel
theorem dX9_isEdge_1 : decode cX9_isEdge 1 = .ok (.iload_n 1, 1) := by decide +kernel
theorem dX9_isEdge_2 : decode cX9_isEdge 2 = .ok (.invokevirtual 160, 3) := by decide +kernel
theorem dX9_isEdge_5 : decode cX9_isEdge 5 = .ok (.ifCond .eq 21, 3) := by decide +kernel
theorem dX9_isEdge_8 : decode cX9_isEdge 8 = .ok (.iload_n 2, 1) := by decide +kernel
theorem dX9_isEdge_9 : decode cX9_isEdge 9 = .ok (.ifCond .lt 17, 3) := by decide +kernel
theorem dX9_isEdge_12 : decode cX9_isEdge 12 = .ok (.iload_n 2, 1) := by decide +kernel
theorem dX9_isEdge_13 : decode cX9_isEdge 13 = .ok (.aload_n 0, 1) := by decide +kernel
theorem dX9_isEdge_14 : decode cX9_isEdge 14 = .ok (.getfield 13, 3) := by decide +kernel
theorem dX9_isEdge_17 : decode cX9_isEdge 17 = .ok (.iload_n 1, 1) := by decide +kernel
theorem dX9_isEdge_18 : decode cX9_isEdge 18 = .ok (.iaload, 1) := by decide +kernel
theorem dX9_isEdge_19 : decode cX9_isEdge 19 = .ok (.if_icmp .ge 7, 3) := by decide +kernel
theorem dX9_isEdge_22 : decode cX9_isEdge 22 = .ok (.iconst 1, 1) := by decide +kernel
theorem dX9_isEdge_23 : decode cX9_isEdge 23 = .ok (.goto 4, 3) := by decide +kernel
theorem dX9_isEdge_26 : decode cX9_isEdge 26 = .ok (.iconst 0, 1) := by decide +kernel
theorem dX9_isEdge_27 : decode cX9_isEdge 27 = .ok (.ireturn, 1) := by decide +kernel
def f_X9_isEdge (a1 : Int32) (a2 : Int32) (H : Hp) : Option (Int32 × Hp) := bnd (f_X9_isRoutine a1 H) (fun w2 H1 => if w2 = 0 then some (0, H1) else if a2 < 0 then some (0, H1) else gd a1 8 (if (gI H1 0 2 (Int32.toNatClampNeg a1)) ≤ a2 then some (0, H1) else some (1, H1)))
set_option maxRecDepth 100000 in
set_option maxHeartbeats 4000000 in
theorem s_X9_isEdge {p : Program} {l : Launch} {e : Env} {s : State} {m : MethodId} {args : Array Value} {below : List Frame} {meth : Method} {c : Code} {A : Nat → Prop} {D : va_G} {K4 : kQ} {ad : Nat → Nat → Nat} {nr : Nat} {a1 : Int32} {a2 : Int32} {H : Hp} {res : Int32 × Hp} (hC : Cx p s m args c A s.heap D K4 3 RX9 cX9_isEdge) (hret : meth.sig.returnType = (some .boolean) ∧ meth.locks = false) (h : f_X9_isEdge a1 a2 H = some res) : V p l e ({ frames := 1, cells := 0, slots := 0, locals := 21 }) s m args below meth c A s.heap (QI below args s A D K4 ad nr res) D K4 ad nr 3 0 [(0, .ref (ad 0 0)), (1, .int a1), (2, .int a2)] [] H := by
  unfold f_X9_isEdge at h
  refine V_aload_n hC 0 dX9_isEdge_0 rfl ?_
  refine V_iload_n hC 1 dX9_isEdge_1 rfl ?_
  obtain ⟨w2, H1, hc, h⟩ := bnd_some h
  refine V_calli (g := 0) (k := 0) (As := [.int a1]) (st := []) hC (c_X9_isRoutine l hc) rfl ml_X9_160 ⟨Nat.le_of_ble_eq_true rfl, Nat.le_of_ble_eq_true rfl⟩ rfl rfl rfl (Nat.le_of_ble_eq_true rfl) dX9_isEdge_2 ?_
  refine V_if_eq (tgt := 26) hC dX9_isEdge_5 (by decide) (fun c3 => ?_) (fun c3 => ?_)
  · have h := it_pos c3 h
    refine V_iconst (v := 0) hC dX9_isEdge_26 (by decide) ?_
    exact V_zret hC hret (by decide) dX9_isEdge_27 h
  · have h := it_neg c3 h
    refine V_iload_n hC 2 dX9_isEdge_8 rfl ?_
    refine V_if_lt (tgt := 26) hC dX9_isEdge_9 (by decide) (fun c4 => ?_) (fun c4 => ?_)
    · have h := it_pos c4 h
      refine V_iconst (v := 0) hC dX9_isEdge_26 (by decide) ?_
      exact V_zret hC hret (by decide) dX9_isEdge_27 h
    · have h := it_neg c4 h
      refine V_iload_n hC 2 dX9_isEdge_12 rfl ?_
      refine V_aload_n hC 0 dX9_isEdge_13 rfl ?_
      refine V_getR (g := 0) (k := 0) (g' := 0) (k' := 2) hC 9 2 fl_X9_13 rfl rfl rfl rfl dX9_isEdge_14 ?_
      refine V_iload_n hC 1 dX9_isEdge_17 rfl ?_
      obtain ⟨hi, h⟩ := gd_some h
      refine V_iald (g := 0) (k := 2) hC rfl rfl hi dX9_isEdge_18 ?_
      refine V_icmp_ge (tgt := 26) hC dX9_isEdge_19 (by decide) (fun c5 => ?_) (fun c5 => ?_)
      · have h := it_pos c5 h
        refine V_iconst (v := 0) hC dX9_isEdge_26 (by decide) ?_
        exact V_zret hC hret (by decide) dX9_isEdge_27 h
      · have h := it_neg c5 h
        refine V_iconst (v := 1) hC dX9_isEdge_22 (by decide) ?_
        refine V_goto (tgt := 27) hC dX9_isEdge_23 (by decide) ?_
        exact V_zret hC hret (by decide) dX9_isEdge_27 h
theorem c_X9_isEdge (l : Launch) {nr : Nat} {a1 : Int32} {a2 : Int32} {H : Hp} {x : Int32} {H' : Hp} (h : f_X9_isEdge a1 a2 H = some (x, H')) : CI l nr yX9_isEdge cX9_isEdge 3 (some .boolean) 1 21 (fun ad => [.ref (ad 0 0), .int a1, .int a2]) H x H' := by
  intro D K4 ad sz
  refine Met.ofV (by decide) (Nat.le_of_ble_eq_true rfl) ?_
  intro p e s m args below meth c hC hret hsz
  subst hsz
  exact s_X9_isEdge hC hret h
theorem dX9_isBlock_0 : decode cX9_isBlock 0 = .ok (.aload_n 0, 1) := by decide +kernel
theorem dX9_isBlock_1 : decode cX9_isBlock 1 = .ok (.iload_n 1, 1) := by decide +kernel
theorem dX9_isBlock_2 : decode cX9_isBlock 2 = .ok (.invokevirtual 160, 3) := by decide +kernel
theorem dX9_isBlock_5 : decode cX9_isBlock 5 = .ok (.ifCond .eq 21, 3) := by decide +kernel
theorem dX9_isBlock_8 : decode cX9_isBlock 8 = .ok (.iload_n 2, 1) := by decide +kernel
theorem dX9_isBlock_9 : decode cX9_isBlock 9 = .ok (.ifCond .lt 17, 3) := by decide +kernel
theorem dX9_isBlock_12 : decode cX9_isBlock 12 = .ok (.iload_n 2, 1) := by decide +kernel
theorem dX9_isBlock_13 : decode cX9_isBlock 13 = .ok (.aload_n 0, 1) := by decide +kernel
theorem dX9_isBlock_14 : decode cX9_isBlock 14 = .ok (.getfield 7, 3) := by decide +kernel
theorem dX9_isBlock_17 : decode cX9_isBlock 17 = .ok (.iload_n 1, 1) := by decide +kernel
theorem dX9_isBlock_18 : decode cX9_isBlock 18 = .ok (.iaload, 1) := by decide +kernel
theorem dX9_isBlock_19 : decode cX9_isBlock 19 = .ok (.if_icmp .ge 7, 3) := by decide +kernel
theorem dX9_isBlock_22 : decode cX9_isBlock 22 = .ok (.iconst 1, 1) := by decide +kernel
theorem dX9_isBlock_23 : decode cX9_isBlock 23 = .ok (.goto 4, 3) := by decide +kernel
theorem dX9_isBlock_26 : decode cX9_isBlock 26 = .ok (.iconst 0, 1) := by decide +kernel
theorem dX9_isBlock_27 : decode cX9_isBlock 27 = .ok (.ireturn, 1) := by decide +kernel
def f_X9_isBlock (a1 : Int32) (a2 : Int32) (H : Hp) : Option (Int32 × Hp) := bnd (f_X9_isRoutine a1 H) (fun w2 H1 => if w2 = 0 then some (0, H1) else if a2 < 0 then some (0, H1) else gd a1 8 (if (gI H1 0 1 (Int32.toNatClampNeg a1)) ≤ a2 then some (0, H1) else some (1, H1)))
set_option maxRecDepth 100000 in
set_option maxHeartbeats 4000000 in
theorem s_X9_isBlock {p : Program} {l : Launch} {e : Env} {s : State} {m : MethodId} {args : Array Value} {below : List Frame} {meth : Method} {c : Code} {A : Nat → Prop} {D : va_G} {K4 : kQ} {ad : Nat → Nat → Nat} {nr : Nat} {a1 : Int32} {a2 : Int32} {H : Hp} {res : Int32 × Hp} (hC : Cx p s m args c A s.heap D K4 3 RX9 cX9_isBlock) (hret : meth.sig.returnType = (some .boolean) ∧ meth.locks = false) (h : f_X9_isBlock a1 a2 H = some res) : V p l e ({ frames := 1, cells := 0, slots := 0, locals := 21 }) s m args below meth c A s.heap (QI below args s A D K4 ad nr res) D K4 ad nr 3 0 [(0, .ref (ad 0 0)), (1, .int a1), (2, .int a2)] [] H := by
  unfold f_X9_isBlock at h
  refine V_aload_n hC 0 dX9_isBlock_0 rfl ?_
  refine V_iload_n hC 1 dX9_isBlock_1 rfl ?_
  obtain ⟨w2, H1, hc, h⟩ := bnd_some h
  refine V_calli (g := 0) (k := 0) (As := [.int a1]) (st := []) hC (c_X9_isRoutine l hc) rfl ml_X9_160 ⟨Nat.le_of_ble_eq_true rfl, Nat.le_of_ble_eq_true rfl⟩ rfl rfl rfl (Nat.le_of_ble_eq_true rfl) dX9_isBlock_2 ?_
  refine V_if_eq (tgt := 26) hC dX9_isBlock_5 (by decide) (fun c3 => ?_) (fun c3 => ?_)
  · have h := it_pos c3 h
    refine V_iconst (v := 0) hC dX9_isBlock_26 (by decide) ?_
    exact V_zret hC hret (by decide) dX9_isBlock_27 h
  · have h := it_neg c3 h
    refine V_iload_n hC 2 dX9_isBlock_8 rfl ?_
    refine V_if_lt (tgt := 26) hC dX9_isBlock_9 (by decide) (fun c4 => ?_) (fun c4 => ?_)
    · have h := it_pos c4 h
      refine V_iconst (v := 0) hC dX9_isBlock_26 (by decide) ?_
      exact V_zret hC hret (by decide) dX9_isBlock_27 h
    · have h := it_neg c4 h
      refine V_iload_n hC 2 dX9_isBlock_12 rfl ?_
      refine V_aload_n hC 0 dX9_isBlock_13 rfl ?_
      refine V_getR (g := 0) (k := 0) (g' := 0) (k' := 1) hC 9 1 fl_X9_7 rfl rfl rfl rfl dX9_isBlock_14 ?_
      refine V_iload_n hC 1 dX9_isBlock_17 rfl ?_
      obtain ⟨hi, h⟩ := gd_some h
      refine V_iald (g := 0) (k := 1) hC rfl rfl hi dX9_isBlock_18 ?_
      refine V_icmp_ge (tgt := 26) hC dX9_isBlock_19 (by decide) (fun c5 => ?_) (fun c5 => ?_)
      · have h := it_pos c5 h
        refine V_iconst (v := 0) hC dX9_isBlock_26 (by decide) ?_
        exact V_zret hC hret (by decide) dX9_isBlock_27 h
      · have h := it_neg c5 h
        refine V_iconst (v := 1) hC dX9_isBlock_22 (by decide) ?_
        refine V_goto (tgt := 27) hC dX9_isBlock_23 (by decide) ?_
        exact V_zret hC hret (by decide) dX9_isBlock_27 h
theorem c_X9_isBlock (l : Launch) {nr : Nat} {a1 : Int32} {a2 : Int32} {H : Hp} {x : Int32} {H' : Hp} (h : f_X9_isBlock a1 a2 H = some (x, H')) : CI l nr yX9_isBlock cX9_isBlock 3 (some .boolean) 1 21 (fun ad => [.ref (ad 0 0), .int a1, .int a2]) H x H' := by
  intro D K4 ad sz
  refine Met.ofV (by decide) (Nat.le_of_ble_eq_true rfl) ?_
  intro p e s m args below meth c hC hret hsz
  subst hsz
  exact s_X9_isBlock hC hret h
theorem dX9_block_0 : decode cX9_block 0 = .ok (.aload_n 0, 1) := by decide +kernel
theorem dX9_block_1 : decode cX9_block 1 = .ok (.iconst 0, 1) := by decide +kernel
theorem dX9_block_2 : decode cX9_block 2 = .ok (.putfield 153, 3) := by decide +kernel
theorem dX9_block_5 : decode cX9_block 5 = .ok (.aload_n 0, 1) := by decide +kernel
theorem dX9_block_6 : decode cX9_block 6 = .ok (.iload_n 1, 1) := by decide +kernel
theorem dX9_block_7 : decode cX9_block 7 = .ok (.invokevirtual 160, 3) := by decide +kernel
theorem dX9_block_10 : decode cX9_block 10 = .ok (.ifCond .eq 47, 3) := by decide +kernel
theorem dX9_block_13 : decode cX9_block 13 = .ok (.aload_n 0, 1) := by decide +kernel
theorem dX9_block_14 : decode cX9_block 14 = .ok (.getfield 16, 3) := by decide +kernel
theorem dX9_block_17 : decode cX9_block 17 = .ok (.iload_n 1, 1) := by decide +kernel
theorem dX9_block_18 : decode cX9_block 18 = .ok (.baload, 1) := by decide +kernel
theorem dX9_block_19 : decode cX9_block 19 = .ok (.ifCond .ne 38, 3) := by decide +kernel
theorem dX9_block_22 : decode cX9_block 22 = .ok (.aload_n 0, 1) := by decide +kernel
theorem dX9_block_23 : decode cX9_block 23 = .ok (.getfield 7, 3) := by decide +kernel
theorem dX9_block_26 : decode cX9_block 26 = .ok (.iload_n 1, 1) := by decide +kernel
theorem dX9_block_27 : decode cX9_block 27 = .ok (.iaload, 1) := by decide +kernel
theorem dX9_block_28 : decode cX9_block 28 = .ok (.bipush 20, 2) := by decide +kernel
theorem dX9_block_30 : decode cX9_block 30 = .ok (.if_icmp .eq 27, 3) := by decide +kernel
theorem dX9_block_33 : decode cX9_block 33 = .ok (.iload_n 2, 1) := by decide +kernel
theorem dX9_block_34 : decode cX9_block 34 = .ok (.ifCond .lt 23, 3) := by decide +kernel
theorem dX9_block_37 : decode cX9_block 37 = .ok (.iload_n 2, 1) := by decide +kernel
theorem dX9_block_38 : decode cX9_block 38 = .ok (.iconst 4, 1) := by decide +kernel
theorem dX9_block_39 : decode cX9_block 39 = .ok (.if_icmp .gt 18, 3) := by decide +kernel
theorem dX9_block_42 : decode cX9_block 42 = .ok (.iload_n 2, 1) := by decide +kernel
theorem dX9_block_43 : decode cX9_block 43 = .ok (.iconst 2, 1) := by decide +kernel
theorem dX9_block_44 : decode cX9_block 44 = .ok (.if_icmp .ne 15, 3) := by decide +kernel
theorem dX9_block_47 : decode cX9_block 47 = .ok (.iload_n 3, 1) := by decide +kernel
theorem dX9_block_48 : decode cX9_block 48 = .ok (.ifCond .lt 9, 3) := by decide +kernel
theorem dX9_block_51 : decode cX9_block 51 = .ok (.iload_n 3, 1) := by decide +kernel
theorem dX9_block_52 : decode cX9_block 52 = .ok (.bipush 7, 2) := by decide +kernel
theorem dX9_block_54 : decode cX9_block 54 = .ok (.if_icmp .le 5, 3) := by decide +kernel
theorem dX9_block_57 : decode cX9_block 57 = .ok (.iconst (-1), 1) := by decide +kernel
theorem dX9_block_58 : decode cX9_block 58 = .ok (.ireturn, 1) := by decide +kernel
theorem dX9_block_59 : decode cX9_block 59 = .ok (.aload_n 0, 1) := by decide +kernel
theorem dX9_block_60 : decode cX9_block 60 = .ok (.getfield 20, 3) := by decide +kernel
theorem dX9_block_63 : decode cX9_block 63 = .ok (.bipush 20, 2) := by decide +kernel
theorem dX9_block_65 : decode cX9_block 65 = .ok (.iload_n 1, 1) := by decide +kernel
theorem dX9_block_66 : decode cX9_block 66 = .ok (.imul, 1) := by decide +kernel
theorem dX9_block_67 : decode cX9_block 67 = .ok (.aload_n 0, 1) := by decide +kernel
theorem dX9_block_68 : decode cX9_block 68 = .ok (.getfield 7, 3) := by decide +kernel
theorem dX9_block_71 : decode cX9_block 71 = .ok (.iload_n 1, 1) := by decide +kernel
theorem dX9_block_72 : decode cX9_block 72 = .ok (.iaload, 1) := by decide +kernel
theorem dX9_block_73 : decode cX9_block 73 = .ok (.iadd, 1) := by decide +kernel
theorem dX9_block_74 : decode cX9_block 74 = .ok (.iload_n 2, 1) := by decide +kernel
theorem dX9_block_75 : decode cX9_block 75 = .ok (.iastore, 1) := by decide +kernel
theorem dX9_block_76 : decode cX9_block 76 = .ok (.aload_n 0, 1) := by decide +kernel
theorem dX9_block_77 : decode cX9_block 77 = .ok (.getfield 23, 3) := by decide +kernel
theorem dX9_block_80 : decode cX9_block 80 = .ok (.bipush 20, 2) := by decide +kernel
theorem dX9_block_82 : decode cX9_block 82 = .ok (.iload_n 1, 1) := by decide +kernel
theorem dX9_block_83 : decode cX9_block 83 = .ok (.imul, 1) := by decide +kernel
theorem dX9_block_84 : decode cX9_block 84 = .ok (.aload_n 0, 1) := by decide +kernel
theorem dX9_block_85 : decode cX9_block 85 = .ok (.getfield 7, 3) := by decide +kernel
theorem dX9_block_88 : decode cX9_block 88 = .ok (.iload_n 1, 1) := by decide +kernel
theorem dX9_block_89 : decode cX9_block 89 = .ok (.iaload, 1) := by decide +kernel
theorem dX9_block_90 : decode cX9_block 90 = .ok (.iadd, 1) := by decide +kernel
theorem dX9_block_91 : decode cX9_block 91 = .ok (.iload_n 2, 1) := by decide +kernel
theorem dX9_block_92 : decode cX9_block 92 = .ok (.iconst 2, 1) := by decide +kernel
theorem dX9_block_93 : decode cX9_block 93 = .ok (.if_icmp .ne 7, 3) := by decide +kernel
theorem dX9_block_96 : decode cX9_block 96 = .ok (.iload_n 3, 1) := by decide +kernel
theorem dX9_block_97 : decode cX9_block 97 = .ok (.goto 4, 3) := by decide +kernel
theorem dX9_block_100 : decode cX9_block 100 = .ok (.iconst (-1), 1) := by decide +kernel
theorem dX9_block_101 : decode cX9_block 101 = .ok (.iastore, 1) := by decide +kernel
theorem dX9_block_102 : decode cX9_block 102 = .ok (.aload_n 0, 1) := by decide +kernel
theorem dX9_block_103 : decode cX9_block 103 = .ok (.getfield 7, 3) := by decide +kernel
theorem dX9_block_106 : decode cX9_block 106 = .ok (.iload_n 1, 1) := by decide +kernel
theorem dX9_block_107 : decode cX9_block 107 = .ok (.dup2, 1) := by decide +kernel
theorem dX9_block_108 : decode cX9_block 108 = .ok (.iaload, 1) := by decide +kernel
theorem dX9_block_109 : decode cX9_block 109 = .ok (.iconst 1, 1) := by decide +kernel
theorem dX9_block_110 : decode cX9_block 110 = .ok (.iadd, 1) := by decide +kernel
theorem dX9_block_111 : decode cX9_block 111 = .ok (.iastore, 1) := by decide +kernel
theorem dX9_block_112 : decode cX9_block 112 = .ok (.aload_n 0, 1) := by decide +kernel
theorem dX9_block_113 : decode cX9_block 113 = .ok (.getfield 7, 3) := by decide +kernel
theorem dX9_block_116 : decode cX9_block 116 = .ok (.iload_n 1, 1) := by decide +kernel
theorem dX9_block_117 : decode cX9_block 117 = .ok (.iaload, 1) := by decide +kernel
theorem dX9_block_118 : decode cX9_block 118 = .ok (.iconst 1, 1) := by decide +kernel
theorem dX9_block_119 : decode cX9_block 119 = .ok (.isub, 1) := by decide +kernel
theorem dX9_block_120 : decode cX9_block 120 = .ok (.ireturn, 1) := by decide +kernel
def f_X9_block (a1 : Int32) (a2 : Int32) (a3 : Int32) (H : Hp) : Option (Int32 × Hp) := hl (sI H 0 0 34 0) (fun (H1 : Hp) => bnd (f_X9_isRoutine a1 H1) (fun w3 H2 => if w3 = 0 then some ((-1), H2) else gd a1 8 (if (gI H2 0 3 (Int32.toNatClampNeg a1)) = 0 then gd a1 8 (if (gI H2 0 1 (Int32.toNatClampNeg a1)) = 20 then some ((-1), H2) else if a2 < 0 then some ((-1), H2) else if 4 < a2 then some ((-1), H2) else jn (fun (H10 : Hp) => gd a1 8 (gd ((20 * a1) + (gI H10 0 1 (Int32.toNatClampNeg a1))) 160 (hl (sI H10 0 4 (Int32.toNatClampNeg ((20 * a1) + (gI H10 0 1 (Int32.toNatClampNeg a1)))) a2) (fun (H11 : Hp) => gd a1 8 (jn (fun (y13 : Int32) (H14 : Hp) => gd ((20 * a1) + (gI H11 0 1 (Int32.toNatClampNeg a1))) 160 (hl (sI H14 0 5 (Int32.toNatClampNeg ((20 * a1) + (gI H11 0 1 (Int32.toNatClampNeg a1)))) y13) (fun (H15 : Hp) => gd a1 8 (gd a1 8 (hl (sI H15 0 1 (Int32.toNatClampNeg a1) ((gI H15 0 1 (Int32.toNatClampNeg a1)) + 1)) (fun (H16 : Hp) => gd a1 8 (some (((gI H16 0 1 (Int32.toNatClampNeg a1)) - 1), H16)))))))) (fun j12 => if a2 = 2 then j12 a3 H11 else j12 (-1) H11)))))) (fun j9 => if a2 = 2 then if a3 < 0 then some ((-1), H2) else if a3 ≤ 7 then j9 H2 else some ((-1), H2) else j9 H2)) else some ((-1), H2))))
set_option maxRecDepth 100000 in
set_option maxHeartbeats 4000000 in
theorem s_X9_block {p : Program} {l : Launch} {e : Env} {s : State} {m : MethodId} {args : Array Value} {below : List Frame} {meth : Method} {c : Code} {A : Nat → Prop} {D : va_G} {K4 : kQ} {ad : Nat → Nat → Nat} {nr : Nat} {a1 : Int32} {a2 : Int32} {a3 : Int32} {H : Hp} {res : Int32 × Hp} (hC : Cx p s m args c A s.heap D K4 4 RX9 cX9_block) (hret : meth.sig.returnType = (some .int) ∧ meth.locks = false) (h : f_X9_block a1 a2 a3 H = some res) : V p l e ({ frames := 1, cells := 0, slots := 0, locals := 21 }) s m args below meth c A s.heap (QI below args s A D K4 ad nr res) D K4 ad nr 4 0 [(0, .ref (ad 0 0)), (1, .int a1), (2, .int a2), (3, .int a3)] [] H := by
  unfold f_X9_block at h
  refine V_aload_n hC 0 dX9_block_0 rfl ?_
  refine V_iconst (v := 0) hC dX9_block_1 (by decide) ?_
  refine V_putI (g := 0) (k := 0) hC 9 34 .int fw_X9_153 rfl rfl rfl rfl rfl dX9_block_2 ?_
  refine V_hl h (fun H1 h => ?_)
  refine V_aload_n hC 0 dX9_block_5 rfl ?_
  refine V_iload_n hC 1 dX9_block_6 rfl ?_
  obtain ⟨w3, H2, hc, h⟩ := bnd_some h
  refine V_calli (g := 0) (k := 0) (As := [.int a1]) (st := []) hC (c_X9_isRoutine l hc) rfl ml_X9_160 ⟨Nat.le_of_ble_eq_true rfl, Nat.le_of_ble_eq_true rfl⟩ rfl rfl rfl (Nat.le_of_ble_eq_true rfl) dX9_block_7 ?_
  refine V_if_eq (tgt := 57) hC dX9_block_10 (by decide) (fun c4 => ?_) (fun c4 => ?_)
  · have h := it_pos c4 h
    refine V_iconst (v := -1) hC dX9_block_57 (by decide) ?_
    exact V_iret hC hret dX9_block_58 h
  · have h := it_neg c4 h
    refine V_aload_n hC 0 dX9_block_13 rfl ?_
    refine V_getR (g := 0) (k := 0) (g' := 0) (k' := 3) hC 9 3 fl_X9_16 rfl rfl rfl rfl dX9_block_14 ?_
    refine V_iload_n hC 1 dX9_block_17 rfl ?_
    obtain ⟨hi, h⟩ := gd_some h
    refine V_zald (g := 0) (k := 3) hC rfl rfl hi dX9_block_18 ?_
    refine V_if_ne (tgt := 57) hC dX9_block_19 (by decide) (fun c5 => ?_) (fun c5 => ?_)
    · have h := it_neg c5 h
      refine V_iconst (v := -1) hC dX9_block_57 (by decide) ?_
      exact V_iret hC hret dX9_block_58 h
    · have h := it_pos c5 h
      refine V_aload_n hC 0 dX9_block_22 rfl ?_
      refine V_getR (g := 0) (k := 0) (g' := 0) (k' := 1) hC 9 1 fl_X9_7 rfl rfl rfl rfl dX9_block_23 ?_
      refine V_iload_n hC 1 dX9_block_26 rfl ?_
      obtain ⟨hi, h⟩ := gd_some h
      refine V_iald (g := 0) (k := 1) hC rfl rfl hi dX9_block_27 ?_
      refine V_bipush (v := 20) hC dX9_block_28 (by decide) ?_
      refine V_icmp_eq (tgt := 57) hC dX9_block_30 (by decide) (fun c6 => ?_) (fun c6 => ?_)
      · have h := it_pos c6 h
        refine V_iconst (v := -1) hC dX9_block_57 (by decide) ?_
        exact V_iret hC hret dX9_block_58 h
      · have h := it_neg c6 h
        refine V_iload_n hC 2 dX9_block_33 rfl ?_
        refine V_if_lt (tgt := 57) hC dX9_block_34 (by decide) (fun c7 => ?_) (fun c7 => ?_)
        · have h := it_pos c7 h
          refine V_iconst (v := -1) hC dX9_block_57 (by decide) ?_
          exact V_iret hC hret dX9_block_58 h
        · have h := it_neg c7 h
          refine V_iload_n hC 2 dX9_block_37 rfl ?_
          refine V_iconst (v := 4) hC dX9_block_38 (by decide) ?_
          refine V_icmp_gt (tgt := 57) hC dX9_block_39 (by decide) (fun c8 => ?_) (fun c8 => ?_)
          · have h := it_pos c8 h
            refine V_iconst (v := -1) hC dX9_block_57 (by decide) ?_
            exact V_iret hC hret dX9_block_58 h
          · have h := it_neg c8 h
            refine V_iload_n hC 2 dX9_block_42 rfl ?_
            refine V_iconst (v := 2) hC dX9_block_43 (by decide) ?_
            refine V_jn0 (pj := 59) (lj := [(0, .ref (ad 0 0)), (1, .int a1), (2, .int a2), (3, .int a3)]) (sj := []) h (fun H10 h => ?_) (fun hj9 h => ?_)
            · refine V_aload_n hC 0 dX9_block_59 rfl ?_
              refine V_getR (g := 0) (k := 0) (g' := 0) (k' := 4) hC 9 4 fl_X9_20 rfl rfl rfl rfl dX9_block_60 ?_
              refine V_bipush (v := 20) hC dX9_block_63 (by decide) ?_
              refine V_iload_n hC 1 dX9_block_65 rfl ?_
              refine V_imul hC dX9_block_66 ?_
              refine V_aload_n hC 0 dX9_block_67 rfl ?_
              refine V_getR (g := 0) (k := 0) (g' := 0) (k' := 1) hC 9 1 fl_X9_7 rfl rfl rfl rfl dX9_block_68 ?_
              refine V_iload_n hC 1 dX9_block_71 rfl ?_
              obtain ⟨hi, h⟩ := gd_some h
              refine V_iald (g := 0) (k := 1) hC rfl rfl hi dX9_block_72 ?_
              refine V_iadd hC dX9_block_73 ?_
              refine V_iload_n hC 2 dX9_block_74 rfl ?_
              obtain ⟨hi, h⟩ := gd_some h
              refine V_iast (g := 0) (k := 4) hC rfl rfl hi dX9_block_75 ?_
              refine V_hl h (fun H11 h => ?_)
              refine V_aload_n hC 0 dX9_block_76 rfl ?_
              refine V_getR (g := 0) (k := 0) (g' := 0) (k' := 5) hC 9 5 fl_X9_23 rfl rfl rfl rfl dX9_block_77 ?_
              refine V_bipush (v := 20) hC dX9_block_80 (by decide) ?_
              refine V_iload_n hC 1 dX9_block_82 rfl ?_
              refine V_imul hC dX9_block_83 ?_
              refine V_aload_n hC 0 dX9_block_84 rfl ?_
              refine V_getR (g := 0) (k := 0) (g' := 0) (k' := 1) hC 9 1 fl_X9_7 rfl rfl rfl rfl dX9_block_85 ?_
              refine V_iload_n hC 1 dX9_block_88 rfl ?_
              obtain ⟨hi, h⟩ := gd_some h
              refine V_iald (g := 0) (k := 1) hC rfl rfl hi dX9_block_89 ?_
              refine V_iadd hC dX9_block_90 ?_
              refine V_iload_n hC 2 dX9_block_91 rfl ?_
              refine V_iconst (v := 2) hC dX9_block_92 (by decide) ?_
              refine V_jn1 (pj := 101) (lj := fun y13 => [(0, .ref (ad 0 0)), (1, .int a1)]) (sj := fun y13 => [.int y13, .int ((20 * a1) + (gI H11 0 1 (Int32.toNatClampNeg a1))), .ref (ad 0 5)]) h (fun y13 H14 h => ?_) (fun hj12 h => ?_)
              · obtain ⟨hi, h⟩ := gd_some h
                refine V_iast (g := 0) (k := 5) hC rfl rfl hi dX9_block_101 ?_
                refine V_hl h (fun H15 h => ?_)
                refine V_aload_n hC 0 dX9_block_102 rfl ?_
                refine V_getR (g := 0) (k := 0) (g' := 0) (k' := 1) hC 9 1 fl_X9_7 rfl rfl rfl rfl dX9_block_103 ?_
                refine V_iload_n hC 1 dX9_block_106 rfl ?_
                refine V_dup2 hC dX9_block_107 rfl rfl ?_
                obtain ⟨hi, h⟩ := gd_some h
                refine V_iald (g := 0) (k := 1) hC rfl rfl hi dX9_block_108 ?_
                refine V_iconst (v := 1) hC dX9_block_109 (by decide) ?_
                refine V_iadd hC dX9_block_110 ?_
                obtain ⟨hi, h⟩ := gd_some h
                refine V_iast (g := 0) (k := 1) hC rfl rfl hi dX9_block_111 ?_
                refine V_hl h (fun H16 h => ?_)
                refine V_aload_n hC 0 dX9_block_112 rfl ?_
                refine V_getR (g := 0) (k := 0) (g' := 0) (k' := 1) hC 9 1 fl_X9_7 rfl rfl rfl rfl dX9_block_113 ?_
                refine V_iload_n hC 1 dX9_block_116 rfl ?_
                obtain ⟨hi, h⟩ := gd_some h
                refine V_iald (g := 0) (k := 1) hC rfl rfl hi dX9_block_117 ?_
                refine V_iconst (v := 1) hC dX9_block_118 (by decide) ?_
                refine V_isub hC dX9_block_119 ?_
                exact V_iret hC hret dX9_block_120 h
              · refine V_icmp_ne (tgt := 100) hC dX9_block_93 (by decide) (fun c17 => ?_) (fun c17 => ?_)
                · have h := it_neg c17 h
                  refine V_iconst (v := -1) hC dX9_block_100 (by decide) ?_
                  refine V_lv (lv' := [(0, .ref (ad 0 0)), (1, .int a1)]) [0, 1] rfl ?_
                  exact hj12 (-1) H11 h
                · have h := it_pos c17 h
                  refine V_iload_n hC 3 dX9_block_96 rfl ?_
                  refine V_goto (tgt := 101) hC dX9_block_97 (by decide) ?_
                  refine V_lv (lv' := [(0, .ref (ad 0 0)), (1, .int a1)]) [0, 1] rfl ?_
                  exact hj12 a3 H11 h
            · refine V_icmp_ne (tgt := 59) hC dX9_block_44 (by decide) (fun c18 => ?_) (fun c18 => ?_)
              · have h := it_neg c18 h
                refine V_lv (lv' := [(0, .ref (ad 0 0)), (1, .int a1), (2, .int a2), (3, .int a3)]) [0, 1, 2, 3] rfl ?_
                exact hj9 H2 h
              · have h := it_pos c18 h
                refine V_iload_n hC 3 dX9_block_47 rfl ?_
                refine V_if_lt (tgt := 57) hC dX9_block_48 (by decide) (fun c19 => ?_) (fun c19 => ?_)
                · have h := it_pos c19 h
                  refine V_iconst (v := -1) hC dX9_block_57 (by decide) ?_
                  exact V_iret hC hret dX9_block_58 h
                · have h := it_neg c19 h
                  refine V_iload_n hC 3 dX9_block_51 rfl ?_
                  refine V_bipush (v := 7) hC dX9_block_52 (by decide) ?_
                  refine V_icmp_le (tgt := 59) hC dX9_block_54 (by decide) (fun c20 => ?_) (fun c20 => ?_)
                  · have h := it_pos c20 h
                    refine V_lv (lv' := [(0, .ref (ad 0 0)), (1, .int a1), (2, .int a2), (3, .int a3)]) [0, 1, 2, 3] rfl ?_
                    exact hj9 H2 h
                  · have h := it_neg c20 h
                    refine V_iconst (v := -1) hC dX9_block_57 (by decide) ?_
                    exact V_iret hC hret dX9_block_58 h
theorem c_X9_block (l : Launch) {nr : Nat} {a1 : Int32} {a2 : Int32} {a3 : Int32} {H : Hp} {x : Int32} {H' : Hp} (h : f_X9_block a1 a2 a3 H = some (x, H')) : CI l nr yX9_block cX9_block 4 (some .int) 1 21 (fun ad => [.ref (ad 0 0), .int a1, .int a2, .int a3]) H x H' := by
  intro D K4 ad sz
  refine Met.ofV (by decide) (Nat.le_of_ble_eq_true rfl) ?_
  intro p e s m args below meth c hC hret hsz
  subst hsz
  exact s_X9_block hC hret h
theorem dX9_outs_0 : decode cX9_outs 0 = .ok (.iconst 0, 1) := by decide +kernel
theorem dX9_outs_1 : decode cX9_outs 1 = .ok (.istore_n 3, 1) := by decide +kernel
theorem dX9_outs_2 : decode cX9_outs 2 = .ok (.bipush 40, 2) := by decide +kernel
theorem dX9_outs_4 : decode cX9_outs 4 = .ok (.iload_n 1, 1) := by decide +kernel
theorem dX9_outs_5 : decode cX9_outs 5 = .ok (.imul, 1) := by decide +kernel
theorem dX9_outs_6 : decode cX9_outs 6 = .ok (.istore 4, 2) := by decide +kernel
theorem dX9_outs_8 : decode cX9_outs 8 = .ok (.iload 4, 2) := by decide +kernel
theorem dX9_outs_10 : decode cX9_outs 10 = .ok (.bipush 40, 2) := by decide +kernel
theorem dX9_outs_12 : decode cX9_outs 12 = .ok (.iload_n 1, 1) := by decide +kernel
theorem dX9_outs_13 : decode cX9_outs 13 = .ok (.imul, 1) := by decide +kernel
theorem dX9_outs_14 : decode cX9_outs 14 = .ok (.aload_n 0, 1) := by decide +kernel
theorem dX9_outs_15 : decode cX9_outs 15 = .ok (.getfield 13, 3) := by decide +kernel
theorem dX9_outs_18 : decode cX9_outs 18 = .ok (.iload_n 1, 1) := by decide +kernel
theorem dX9_outs_19 : decode cX9_outs 19 = .ok (.iaload, 1) := by decide +kernel
theorem dX9_outs_20 : decode cX9_outs 20 = .ok (.iadd, 1) := by decide +kernel
theorem dX9_outs_21 : decode cX9_outs 21 = .ok (.if_icmp .ge 28, 3) := by decide +kernel
theorem dX9_outs_24 : decode cX9_outs 24 = .ok (.iload_n 3, 1) := by decide +kernel
theorem dX9_outs_25 : decode cX9_outs 25 = .ok (.aload_n 0, 1) := by decide +kernel
theorem dX9_outs_26 : decode cX9_outs 26 = .ok (.getfield 26, 3) := by decide +kernel
theorem dX9_outs_29 : decode cX9_outs 29 = .ok (.iload 4, 2) := by decide +kernel
theorem dX9_outs_31 : decode cX9_outs 31 = .ok (.iaload, 1) := by decide +kernel
theorem dX9_outs_32 : decode cX9_outs 32 = .ok (.iload_n 2, 1) := by decide +kernel
theorem dX9_outs_33 : decode cX9_outs 33 = .ok (.if_icmp .ne 7, 3) := by decide +kernel
theorem dX9_outs_36 : decode cX9_outs 36 = .ok (.iconst 1, 1) := by decide +kernel
theorem dX9_outs_37 : decode cX9_outs 37 = .ok (.goto 4, 3) := by decide +kernel
theorem dX9_outs_40 : decode cX9_outs 40 = .ok (.iconst 0, 1) := by decide +kernel
theorem dX9_outs_41 : decode cX9_outs 41 = .ok (.iadd, 1) := by decide +kernel
theorem dX9_outs_42 : decode cX9_outs 42 = .ok (.istore_n 3, 1) := by decide +kernel
theorem dX9_outs_43 : decode cX9_outs 43 = .ok (.iinc 4 1, 3) := by decide +kernel
theorem dX9_outs_46 : decode cX9_outs 46 = .ok (.goto (-38), 3) := by decide +kernel
theorem dX9_outs_49 : decode cX9_outs 49 = .ok (.iload_n 3, 1) := by decide +kernel
theorem dX9_outs_50 : decode cX9_outs 50 = .ok (.ireturn, 1) := by decide +kernel
def L_X9_outs_8 (b1 : Int32) (b2 : Int32) (k : Int32 → Hp → Option (Int32 × Hp)) : Nat → Int32 → Int32 → Hp → Option (Int32 × Hp)
  | 0, _, _, _ => none
  | n + 1, x3, x4, H => gd b1 8 (if ((40 * b1) + (gI H 0 2 (Int32.toNatClampNeg b1))) ≤ x4 then k x3 H else gd x4 320 (if (gI H 0 6 (Int32.toNatClampNeg x4)) = b2 then vl ((x3 + 1)) (fun (v6 : Int32) => vl (x4 + (1 : Int32)) (fun (v7 : Int32) => L_X9_outs_8 b1 b2 k n v6 v7 H)) else vl ((x3 + 0)) (fun (v4 : Int32) => vl (x4 + (1 : Int32)) (fun (v5 : Int32) => L_X9_outs_8 b1 b2 k n v4 v5 H))))
set_option maxRecDepth 100000 in
set_option maxHeartbeats 4000000 in
theorem sL_X9_outs_8 {p : Program} {l : Launch} {e : Env} {s : State} {m : MethodId} {args : Array Value} {below : List Frame} {meth : Method} {c : Code} {A : Nat → Prop} {D : va_G} {K4 : kQ} {ad : Nat → Nat → Nat} {nr : Nat} {b1 : Int32} {b2 : Int32} {k : Int32 → Hp → Option (Int32 × Hp)} {res : Int32 × Hp} (hC : Cx p s m args c A s.heap D K4 5 RX9 cX9_outs) (hret : meth.sig.returnType = (some .int) ∧ meth.locks = false) (hk : ∀ (z3 : Int32) (H : Hp), k z3 H = some res → V p l e ({ frames := 0, cells := 0, slots := 0, locals := 0 }) s m args below meth c A s.heap (QI below args s A D K4 ad nr res) D K4 ad nr 5 49 [(3, .int z3)] [] H) : ∀ (n : Nat) (x3 : Int32) (x4 : Int32) (H : Hp), L_X9_outs_8 b1 b2 k n x3 x4 H = some res → V p l e ({ frames := 0, cells := 0, slots := 0, locals := 0 }) s m args below meth c A s.heap (QI below args s A D K4 ad nr res) D K4 ad nr 5 8 [(0, .ref (ad 0 0)), (1, .int b1), (2, .int b2), (3, .int x3), (4, .int x4)] [] H := by
  intro n
  induction n with
  | zero => intro x3 x4 H h; exact nomatch (show (none : Option (Int32 × Hp)) = some res from h)
  | succ n ih =>
    intro x3 x4 H h
    rw [L_X9_outs_8] at h
    refine V_iload hC 4 dX9_outs_8 rfl ?_
    refine V_bipush (v := 40) hC dX9_outs_10 (by decide) ?_
    refine V_iload_n hC 1 dX9_outs_12 rfl ?_
    refine V_imul hC dX9_outs_13 ?_
    refine V_aload_n hC 0 dX9_outs_14 rfl ?_
    refine V_getR (g := 0) (k := 0) (g' := 0) (k' := 2) hC 9 2 fl_X9_13 rfl rfl rfl rfl dX9_outs_15 ?_
    refine V_iload_n hC 1 dX9_outs_18 rfl ?_
    obtain ⟨hi, h⟩ := gd_some h
    refine V_iald (g := 0) (k := 2) hC rfl rfl hi dX9_outs_19 ?_
    refine V_iadd hC dX9_outs_20 ?_
    refine V_icmp_ge (tgt := 49) hC dX9_outs_21 (by decide) (fun c2 => ?_) (fun c2 => ?_)
    · have h := it_pos c2 h
      refine V_lv (lv' := [(3, .int x3)]) [3] rfl ?_
      exact hk x3 H h
    · have h := it_neg c2 h
      refine V_iload_n hC 3 dX9_outs_24 rfl ?_
      refine V_aload_n hC 0 dX9_outs_25 rfl ?_
      refine V_getR (g := 0) (k := 0) (g' := 0) (k' := 6) hC 9 6 fl_X9_26 rfl rfl rfl rfl dX9_outs_26 ?_
      refine V_iload hC 4 dX9_outs_29 rfl ?_
      obtain ⟨hi, h⟩ := gd_some h
      refine V_iald (g := 0) (k := 6) hC rfl rfl hi dX9_outs_31 ?_
      refine V_iload_n hC 2 dX9_outs_32 rfl ?_
      refine V_icmp_ne (tgt := 40) hC dX9_outs_33 (by decide) (fun c3 => ?_) (fun c3 => ?_)
      · have h := it_neg c3 h
        refine V_iconst (v := 0) hC dX9_outs_40 (by decide) ?_
        refine V_iadd hC dX9_outs_41 ?_
        refine V_vlI h (fun v4 h => ?_)
        refine V_istore_n (lv' := [(3, .int v4), (0, .ref (ad 0 0)), (1, .int b1), (2, .int b2), (4, .int x4)]) hC dX9_outs_42 (Nat.le_of_ble_eq_true rfl) rfl ?_
        refine V_vi h (fun v5 hvv5 h => ?_)
        refine V_iinc (v := v5) (lv' := [(4, .int v5), (3, .int v4), (0, .ref (ad 0 0)), (1, .int b1), (2, .int b2)]) hC 4 dX9_outs_43 rfl hvv5.symm (Nat.le_of_ble_eq_true rfl) rfl ?_
        refine V_goto (tgt := 8) hC dX9_outs_46 (by decide) ?_
        refine V_lv (lv' := [(0, .ref (ad 0 0)), (1, .int b1), (2, .int b2), (3, .int v4), (4, .int v5)]) [2, 3, 4, 1, 0] rfl ?_
        exact ih v4 v5 H h
      · have h := it_pos c3 h
        refine V_iconst (v := 1) hC dX9_outs_36 (by decide) ?_
        refine V_goto (tgt := 41) hC dX9_outs_37 (by decide) ?_
        refine V_iadd hC dX9_outs_41 ?_
        refine V_vlI h (fun v6 h => ?_)
        refine V_istore_n (lv' := [(3, .int v6), (0, .ref (ad 0 0)), (1, .int b1), (2, .int b2), (4, .int x4)]) hC dX9_outs_42 (Nat.le_of_ble_eq_true rfl) rfl ?_
        refine V_vi h (fun v7 hvv7 h => ?_)
        refine V_iinc (v := v7) (lv' := [(4, .int v7), (3, .int v6), (0, .ref (ad 0 0)), (1, .int b1), (2, .int b2)]) hC 4 dX9_outs_43 rfl hvv7.symm (Nat.le_of_ble_eq_true rfl) rfl ?_
        refine V_goto (tgt := 8) hC dX9_outs_46 (by decide) ?_
        refine V_lv (lv' := [(0, .ref (ad 0 0)), (1, .int b1), (2, .int b2), (3, .int v6), (4, .int v7)]) [2, 3, 4, 1, 0] rfl ?_
        exact ih v6 v7 H h
def f_X9_outs (a1 : Int32) (a2 : Int32) (H : Hp) : Option (Int32 × Hp) := vl ((40 * a1)) (fun (v1 : Int32) => L_X9_outs_8 a1 a2 (fun (z8 : Int32) (H9 : Hp) => some (z8, H9)) FU 0 v1 H)
set_option maxRecDepth 100000 in
set_option maxHeartbeats 4000000 in
theorem s_X9_outs {p : Program} {l : Launch} {e : Env} {s : State} {m : MethodId} {args : Array Value} {below : List Frame} {meth : Method} {c : Code} {A : Nat → Prop} {D : va_G} {K4 : kQ} {ad : Nat → Nat → Nat} {nr : Nat} {a1 : Int32} {a2 : Int32} {H : Hp} {res : Int32 × Hp} (hC : Cx p s m args c A s.heap D K4 5 RX9 cX9_outs) (hret : meth.sig.returnType = (some .int) ∧ meth.locks = false) (h : f_X9_outs a1 a2 H = some res) : V p l e ({ frames := 0, cells := 0, slots := 0, locals := 0 }) s m args below meth c A s.heap (QI below args s A D K4 ad nr res) D K4 ad nr 5 0 [(0, .ref (ad 0 0)), (1, .int a1), (2, .int a2)] [] H := by
  unfold f_X9_outs at h
  refine V_iconst (v := 0) hC dX9_outs_0 (by decide) ?_
  refine V_istore_n (lv' := [(3, .int 0), (0, .ref (ad 0 0)), (1, .int a1), (2, .int a2)]) hC dX9_outs_1 (Nat.le_of_ble_eq_true rfl) rfl ?_
  refine V_bipush (v := 40) hC dX9_outs_2 (by decide) ?_
  refine V_iload_n hC 2 dX9_outs_4 rfl ?_
  refine V_imul hC dX9_outs_5 ?_
  refine V_vlI h (fun v1 h => ?_)
  refine V_istore (lv' := [(4, .int v1), (3, .int 0), (0, .ref (ad 0 0)), (1, .int a1), (2, .int a2)]) hC dX9_outs_6 (Nat.le_of_ble_eq_true rfl) rfl ?_
  refine V_lv (lv' := [(0, .ref (ad 0 0)), (1, .int a1), (2, .int a2), (3, .int 0), (4, .int v1)]) [2, 3, 4, 1, 0] rfl ?_
  refine sL_X9_outs_8 hC hret (fun z8 H9 h => ?_) _ 0 v1 H h
  refine V_iload_n hC 0 dX9_outs_49 rfl ?_
  exact V_iret hC hret dX9_outs_50 h
theorem c_X9_outs (l : Launch) {nr : Nat} {a1 : Int32} {a2 : Int32} {H : Hp} {x : Int32} {H' : Hp} (h : f_X9_outs a1 a2 H = some (x, H')) : CI l nr yX9_outs cX9_outs 5 (some .int) 0 0 (fun ad => [.ref (ad 0 0), .int a1, .int a2]) H x H' := by
  intro D K4 ad sz
  refine Met.ofV (by decide) (Nat.le_of_ble_eq_true rfl) ?_
  intro p e s m args below meth c hC hret hsz
  subst hsz
  exact s_X9_outs hC hret h
theorem dX9_ins_0 : decode cX9_ins 0 = .ok (.iconst 0, 1) := by decide +kernel
theorem dX9_ins_1 : decode cX9_ins 1 = .ok (.istore_n 3, 1) := by decide +kernel
theorem dX9_ins_2 : decode cX9_ins 2 = .ok (.bipush 40, 2) := by decide +kernel
theorem dX9_ins_4 : decode cX9_ins 4 = .ok (.iload_n 1, 1) := by decide +kernel
theorem dX9_ins_5 : decode cX9_ins 5 = .ok (.imul, 1) := by decide +kernel
theorem dX9_ins_6 : decode cX9_ins 6 = .ok (.istore 4, 2) := by decide +kernel
theorem dX9_ins_8 : decode cX9_ins 8 = .ok (.iload 4, 2) := by decide +kernel
theorem dX9_ins_10 : decode cX9_ins 10 = .ok (.bipush 40, 2) := by decide +kernel
theorem dX9_ins_12 : decode cX9_ins 12 = .ok (.iload_n 1, 1) := by decide +kernel
theorem dX9_ins_13 : decode cX9_ins 13 = .ok (.imul, 1) := by decide +kernel
theorem dX9_ins_14 : decode cX9_ins 14 = .ok (.aload_n 0, 1) := by decide +kernel
theorem dX9_ins_15 : decode cX9_ins 15 = .ok (.getfield 13, 3) := by decide +kernel
theorem dX9_ins_18 : decode cX9_ins 18 = .ok (.iload_n 1, 1) := by decide +kernel
theorem dX9_ins_19 : decode cX9_ins 19 = .ok (.iaload, 1) := by decide +kernel
theorem dX9_ins_20 : decode cX9_ins 20 = .ok (.iadd, 1) := by decide +kernel
theorem dX9_ins_21 : decode cX9_ins 21 = .ok (.if_icmp .ge 28, 3) := by decide +kernel
theorem dX9_ins_24 : decode cX9_ins 24 = .ok (.iload_n 3, 1) := by decide +kernel
theorem dX9_ins_25 : decode cX9_ins 25 = .ok (.aload_n 0, 1) := by decide +kernel
theorem dX9_ins_26 : decode cX9_ins 26 = .ok (.getfield 29, 3) := by decide +kernel
theorem dX9_ins_29 : decode cX9_ins 29 = .ok (.iload 4, 2) := by decide +kernel
theorem dX9_ins_31 : decode cX9_ins 31 = .ok (.iaload, 1) := by decide +kernel
theorem dX9_ins_32 : decode cX9_ins 32 = .ok (.iload_n 2, 1) := by decide +kernel
theorem dX9_ins_33 : decode cX9_ins 33 = .ok (.if_icmp .ne 7, 3) := by decide +kernel
theorem dX9_ins_36 : decode cX9_ins 36 = .ok (.iconst 1, 1) := by decide +kernel
theorem dX9_ins_37 : decode cX9_ins 37 = .ok (.goto 4, 3) := by decide +kernel
theorem dX9_ins_40 : decode cX9_ins 40 = .ok (.iconst 0, 1) := by decide +kernel
theorem dX9_ins_41 : decode cX9_ins 41 = .ok (.iadd, 1) := by decide +kernel
theorem dX9_ins_42 : decode cX9_ins 42 = .ok (.istore_n 3, 1) := by decide +kernel
theorem dX9_ins_43 : decode cX9_ins 43 = .ok (.iinc 4 1, 3) := by decide +kernel
theorem dX9_ins_46 : decode cX9_ins 46 = .ok (.goto (-38), 3) := by decide +kernel
theorem dX9_ins_49 : decode cX9_ins 49 = .ok (.iload_n 3, 1) := by decide +kernel
theorem dX9_ins_50 : decode cX9_ins 50 = .ok (.ireturn, 1) := by decide +kernel
def L_X9_ins_8 (b1 : Int32) (b2 : Int32) (k : Int32 → Hp → Option (Int32 × Hp)) : Nat → Int32 → Int32 → Hp → Option (Int32 × Hp)
  | 0, _, _, _ => none
  | n + 1, x3, x4, H => gd b1 8 (if ((40 * b1) + (gI H 0 2 (Int32.toNatClampNeg b1))) ≤ x4 then k x3 H else gd x4 320 (if (gI H 0 7 (Int32.toNatClampNeg x4)) = b2 then vl ((x3 + 1)) (fun (v6 : Int32) => vl (x4 + (1 : Int32)) (fun (v7 : Int32) => L_X9_ins_8 b1 b2 k n v6 v7 H)) else vl ((x3 + 0)) (fun (v4 : Int32) => vl (x4 + (1 : Int32)) (fun (v5 : Int32) => L_X9_ins_8 b1 b2 k n v4 v5 H))))
set_option maxRecDepth 100000 in
set_option maxHeartbeats 4000000 in
theorem sL_X9_ins_8 {p : Program} {l : Launch} {e : Env} {s : State} {m : MethodId} {args : Array Value} {below : List Frame} {meth : Method} {c : Code} {A : Nat → Prop} {D : va_G} {K4 : kQ} {ad : Nat → Nat → Nat} {nr : Nat} {b1 : Int32} {b2 : Int32} {k : Int32 → Hp → Option (Int32 × Hp)} {res : Int32 × Hp} (hC : Cx p s m args c A s.heap D K4 5 RX9 cX9_ins) (hret : meth.sig.returnType = (some .int) ∧ meth.locks = false) (hk : ∀ (z3 : Int32) (H : Hp), k z3 H = some res → V p l e ({ frames := 0, cells := 0, slots := 0, locals := 0 }) s m args below meth c A s.heap (QI below args s A D K4 ad nr res) D K4 ad nr 5 49 [(3, .int z3)] [] H) : ∀ (n : Nat) (x3 : Int32) (x4 : Int32) (H : Hp), L_X9_ins_8 b1 b2 k n x3 x4 H = some res → V p l e ({ frames := 0, cells := 0, slots := 0, locals := 0 }) s m args below meth c A s.heap (QI below args s A D K4 ad nr res) D K4 ad nr 5 8 [(0, .ref (ad 0 0)), (1, .int b1), (2, .int b2), (3, .int x3), (4, .int x4)] [] H := by
  intro n
  induction n with
  | zero => intro x3 x4 H h; exact nomatch (show (none : Option (Int32 × Hp)) = some res from h)
  | succ n ih =>
    intro x3 x4 H h
    rw [L_X9_ins_8] at h
    refine V_iload hC 4 dX9_ins_8 rfl ?_
    refine V_bipush (v := 40) hC dX9_ins_10 (by decide) ?_
    refine V_iload_n hC 1 dX9_ins_12 rfl ?_
    refine V_imul hC dX9_ins_13 ?_
    refine V_aload_n hC 0 dX9_ins_14 rfl ?_
    refine V_getR (g := 0) (k := 0) (g' := 0) (k' := 2) hC 9 2 fl_X9_13 rfl rfl rfl rfl dX9_ins_15 ?_
    refine V_iload_n hC 1 dX9_ins_18 rfl ?_
    obtain ⟨hi, h⟩ := gd_some h
    refine V_iald (g := 0) (k := 2) hC rfl rfl hi dX9_ins_19 ?_
    refine V_iadd hC dX9_ins_20 ?_
    refine V_icmp_ge (tgt := 49) hC dX9_ins_21 (by decide) (fun c2 => ?_) (fun c2 => ?_)
    · have h := it_pos c2 h
      refine V_lv (lv' := [(3, .int x3)]) [3] rfl ?_
      exact hk x3 H h
    · have h := it_neg c2 h
      refine V_iload_n hC 3 dX9_ins_24 rfl ?_
      refine V_aload_n hC 0 dX9_ins_25 rfl ?_
      refine V_getR (g := 0) (k := 0) (g' := 0) (k' := 7) hC 9 7 fl_X9_29 rfl rfl rfl rfl dX9_ins_26 ?_
      refine V_iload hC 4 dX9_ins_29 rfl ?_
      obtain ⟨hi, h⟩ := gd_some h
      refine V_iald (g := 0) (k := 7) hC rfl rfl hi dX9_ins_31 ?_
      refine V_iload_n hC 2 dX9_ins_32 rfl ?_
      refine V_icmp_ne (tgt := 40) hC dX9_ins_33 (by decide) (fun c3 => ?_) (fun c3 => ?_)
      · have h := it_neg c3 h
        refine V_iconst (v := 0) hC dX9_ins_40 (by decide) ?_
        refine V_iadd hC dX9_ins_41 ?_
        refine V_vlI h (fun v4 h => ?_)
        refine V_istore_n (lv' := [(3, .int v4), (0, .ref (ad 0 0)), (1, .int b1), (2, .int b2), (4, .int x4)]) hC dX9_ins_42 (Nat.le_of_ble_eq_true rfl) rfl ?_
        refine V_vi h (fun v5 hvv5 h => ?_)
        refine V_iinc (v := v5) (lv' := [(4, .int v5), (3, .int v4), (0, .ref (ad 0 0)), (1, .int b1), (2, .int b2)]) hC 4 dX9_ins_43 rfl hvv5.symm (Nat.le_of_ble_eq_true rfl) rfl ?_
        refine V_goto (tgt := 8) hC dX9_ins_46 (by decide) ?_
        refine V_lv (lv' := [(0, .ref (ad 0 0)), (1, .int b1), (2, .int b2), (3, .int v4), (4, .int v5)]) [2, 3, 4, 1, 0] rfl ?_
        exact ih v4 v5 H h
      · have h := it_pos c3 h
        refine V_iconst (v := 1) hC dX9_ins_36 (by decide) ?_
        refine V_goto (tgt := 41) hC dX9_ins_37 (by decide) ?_
        refine V_iadd hC dX9_ins_41 ?_
        refine V_vlI h (fun v6 h => ?_)
        refine V_istore_n (lv' := [(3, .int v6), (0, .ref (ad 0 0)), (1, .int b1), (2, .int b2), (4, .int x4)]) hC dX9_ins_42 (Nat.le_of_ble_eq_true rfl) rfl ?_
        refine V_vi h (fun v7 hvv7 h => ?_)
        refine V_iinc (v := v7) (lv' := [(4, .int v7), (3, .int v6), (0, .ref (ad 0 0)), (1, .int b1), (2, .int b2)]) hC 4 dX9_ins_43 rfl hvv7.symm (Nat.le_of_ble_eq_true rfl) rfl ?_
        refine V_goto (tgt := 8) hC dX9_ins_46 (by decide) ?_
        refine V_lv (lv' := [(0, .ref (ad 0 0)), (1, .int b1), (2, .int b2), (3, .int v6), (4, .int v7)]) [2, 3, 4, 1, 0] rfl ?_
        exact ih v6 v7 H h
def f_X9_ins (a1 : Int32) (a2 : Int32) (H : Hp) : Option (Int32 × Hp) := vl ((40 * a1)) (fun (v1 : Int32) => L_X9_ins_8 a1 a2 (fun (z8 : Int32) (H9 : Hp) => some (z8, H9)) FU 0 v1 H)
set_option maxRecDepth 100000 in
set_option maxHeartbeats 4000000 in
theorem s_X9_ins {p : Program} {l : Launch} {e : Env} {s : State} {m : MethodId} {args : Array Value} {below : List Frame} {meth : Method} {c : Code} {A : Nat → Prop} {D : va_G} {K4 : kQ} {ad : Nat → Nat → Nat} {nr : Nat} {a1 : Int32} {a2 : Int32} {H : Hp} {res : Int32 × Hp} (hC : Cx p s m args c A s.heap D K4 5 RX9 cX9_ins) (hret : meth.sig.returnType = (some .int) ∧ meth.locks = false) (h : f_X9_ins a1 a2 H = some res) : V p l e ({ frames := 0, cells := 0, slots := 0, locals := 0 }) s m args below meth c A s.heap (QI below args s A D K4 ad nr res) D K4 ad nr 5 0 [(0, .ref (ad 0 0)), (1, .int a1), (2, .int a2)] [] H := by
  unfold f_X9_ins at h
  refine V_iconst (v := 0) hC dX9_ins_0 (by decide) ?_
  refine V_istore_n (lv' := [(3, .int 0), (0, .ref (ad 0 0)), (1, .int a1), (2, .int a2)]) hC dX9_ins_1 (Nat.le_of_ble_eq_true rfl) rfl ?_
  refine V_bipush (v := 40) hC dX9_ins_2 (by decide) ?_
  refine V_iload_n hC 2 dX9_ins_4 rfl ?_
  refine V_imul hC dX9_ins_5 ?_
  refine V_vlI h (fun v1 h => ?_)
  refine V_istore (lv' := [(4, .int v1), (3, .int 0), (0, .ref (ad 0 0)), (1, .int a1), (2, .int a2)]) hC dX9_ins_6 (Nat.le_of_ble_eq_true rfl) rfl ?_
  refine V_lv (lv' := [(0, .ref (ad 0 0)), (1, .int a1), (2, .int a2), (3, .int 0), (4, .int v1)]) [2, 3, 4, 1, 0] rfl ?_
  refine sL_X9_ins_8 hC hret (fun z8 H9 h => ?_) _ 0 v1 H h
  refine V_iload_n hC 0 dX9_ins_49 rfl ?_
  exact V_iret hC hret dX9_ins_50 h
theorem c_X9_ins (l : Launch) {nr : Nat} {a1 : Int32} {a2 : Int32} {H : Hp} {x : Int32} {H' : Hp} (h : f_X9_ins a1 a2 H = some (x, H')) : CI l nr yX9_ins cX9_ins 5 (some .int) 0 0 (fun ad => [.ref (ad 0 0), .int a1, .int a2]) H x H' := by
  intro D K4 ad sz
  refine Met.ofV (by decide) (Nat.le_of_ble_eq_true rfl) ?_
  intro p e s m args below meth c hC hret hsz
  subst hsz
  exact s_X9_ins hC hret h
theorem dX9_isGuess_0 : decode cX9_isGuess 0 = .ok (.iload_n 0, 1) := by decide +kernel
theorem dX9_isGuess_1 : decode cX9_isGuess 1 = .ok (.ifCond .lt 13, 3) := by decide +kernel
theorem dX9_isGuess_4 : decode cX9_isGuess 4 = .ok (.iload_n 0, 1) := by decide +kernel
theorem dX9_isGuess_5 : decode cX9_isGuess 5 = .ok (.ldc 164, 2) := by decide +kernel
theorem dX9_isGuess_7 : decode cX9_isGuess 7 = .ok (.if_icmp .gt 7, 3) := by decide +kernel
theorem dX9_isGuess_10 : decode cX9_isGuess 10 = .ok (.iconst 1, 1) := by decide +kernel
theorem dX9_isGuess_11 : decode cX9_isGuess 11 = .ok (.goto 4, 3) := by decide +kernel
theorem dX9_isGuess_14 : decode cX9_isGuess 14 = .ok (.iconst 0, 1) := by decide +kernel
theorem dX9_isGuess_15 : decode cX9_isGuess 15 = .ok (.ireturn, 1) := by decide +kernel
def f_X9_isGuess (a1 : Int32) (H : Hp) : Option (Int32 × Hp) := if a1 < 0 then some (0, H) else if 1000000 < a1 then some (0, H) else some (1, H)
set_option maxRecDepth 100000 in
set_option maxHeartbeats 4000000 in
theorem s_X9_isGuess {p : Program} {l : Launch} {e : Env} {s : State} {m : MethodId} {args : Array Value} {below : List Frame} {meth : Method} {c : Code} {A : Nat → Prop} {D : va_G} {K4 : kQ} {ad : Nat → Nat → Nat} {nr : Nat} {a1 : Int32} {H : Hp} {res : Int32 × Hp} (hC : Cx p s m args c A s.heap D K4 1 RX9 cX9_isGuess) (hret : meth.sig.returnType = (some .boolean) ∧ meth.locks = false) (h : f_X9_isGuess a1 H = some res) : V p l e ({ frames := 0, cells := 0, slots := 0, locals := 0 }) s m args below meth c A s.heap (QI below args s A D K4 ad nr res) D K4 ad nr 1 0 [(0, .int a1)] [] H := by
  unfold f_X9_isGuess at h
  refine V_iload_n hC 0 dX9_isGuess_0 rfl ?_
  refine V_if_lt (tgt := 14) hC dX9_isGuess_1 (by decide) (fun c1 => ?_) (fun c1 => ?_)
  · have h := it_pos c1 h
    refine V_iconst (v := 0) hC dX9_isGuess_14 (by decide) ?_
    exact V_zret hC hret (by decide) dX9_isGuess_15 h
  · have h := it_neg c1 h
    refine V_iload_n hC 0 dX9_isGuess_4 rfl ?_
    refine V_ldc hC dX9_isGuess_5 cl_X9_164 ?_
    refine V_icmp_gt (tgt := 14) hC dX9_isGuess_7 (by decide) (fun c2 => ?_) (fun c2 => ?_)
    · have h := it_pos c2 h
      refine V_iconst (v := 0) hC dX9_isGuess_14 (by decide) ?_
      exact V_zret hC hret (by decide) dX9_isGuess_15 h
    · have h := it_neg c2 h
      refine V_iconst (v := 1) hC dX9_isGuess_10 (by decide) ?_
      refine V_goto (tgt := 15) hC dX9_isGuess_11 (by decide) ?_
      exact V_zret hC hret (by decide) dX9_isGuess_15 h
theorem c_X9_isGuess (l : Launch) {nr : Nat} {a1 : Int32} {H : Hp} {x : Int32} {H' : Hp} (h : f_X9_isGuess a1 H = some (x, H')) : CI l nr yX9_isGuess cX9_isGuess 1 (some .boolean) 0 0 (fun ad => [.int a1]) H x H' := by
  intro D K4 ad sz
  refine Met.ofV (by decide) (Nat.le_of_ble_eq_true rfl) ?_
  intro p e s m args below meth c hC hret hsz
  subst hsz
  exact s_X9_isGuess hC hret h
theorem dX9_edge_0 : decode cX9_edge 0 = .ok (.aload_n 0, 1) := by decide +kernel
theorem dX9_edge_1 : decode cX9_edge 1 = .ok (.iconst 0, 1) := by decide +kernel
theorem dX9_edge_2 : decode cX9_edge 2 = .ok (.putfield 153, 3) := by decide +kernel
theorem dX9_edge_5 : decode cX9_edge 5 = .ok (.aload_n 0, 1) := by decide +kernel
theorem dX9_edge_6 : decode cX9_edge 6 = .ok (.iload_n 1, 1) := by decide +kernel
theorem dX9_edge_7 : decode cX9_edge 7 = .ok (.invokevirtual 160, 3) := by decide +kernel
theorem dX9_edge_10 : decode cX9_edge 10 = .ok (.ifCond .eq 49, 3) := by decide +kernel
theorem dX9_edge_13 : decode cX9_edge 13 = .ok (.aload_n 0, 1) := by decide +kernel
theorem dX9_edge_14 : decode cX9_edge 14 = .ok (.getfield 16, 3) := by decide +kernel
theorem dX9_edge_17 : decode cX9_edge 17 = .ok (.iload_n 1, 1) := by decide +kernel
theorem dX9_edge_18 : decode cX9_edge 18 = .ok (.baload, 1) := by decide +kernel
theorem dX9_edge_19 : decode cX9_edge 19 = .ok (.ifCond .ne 40, 3) := by decide +kernel
theorem dX9_edge_22 : decode cX9_edge 22 = .ok (.aload_n 0, 1) := by decide +kernel
theorem dX9_edge_23 : decode cX9_edge 23 = .ok (.getfield 13, 3) := by decide +kernel
theorem dX9_edge_26 : decode cX9_edge 26 = .ok (.iload_n 1, 1) := by decide +kernel
theorem dX9_edge_27 : decode cX9_edge 27 = .ok (.iaload, 1) := by decide +kernel
theorem dX9_edge_28 : decode cX9_edge 28 = .ok (.bipush 40, 2) := by decide +kernel
theorem dX9_edge_30 : decode cX9_edge 30 = .ok (.if_icmp .eq 29, 3) := by decide +kernel
theorem dX9_edge_33 : decode cX9_edge 33 = .ok (.aload_n 0, 1) := by decide +kernel
theorem dX9_edge_34 : decode cX9_edge 34 = .ok (.iload_n 1, 1) := by decide +kernel
theorem dX9_edge_35 : decode cX9_edge 35 = .ok (.iload_n 2, 1) := by decide +kernel
theorem dX9_edge_36 : decode cX9_edge 36 = .ok (.invokevirtual 165, 3) := by decide +kernel
theorem dX9_edge_39 : decode cX9_edge 39 = .ok (.ifCond .eq 20, 3) := by decide +kernel
theorem dX9_edge_42 : decode cX9_edge 42 = .ok (.aload_n 0, 1) := by decide +kernel
theorem dX9_edge_43 : decode cX9_edge 43 = .ok (.iload_n 1, 1) := by decide +kernel
theorem dX9_edge_44 : decode cX9_edge 44 = .ok (.iload_n 3, 1) := by decide +kernel
theorem dX9_edge_45 : decode cX9_edge 45 = .ok (.invokevirtual 165, 3) := by decide +kernel
theorem dX9_edge_48 : decode cX9_edge 48 = .ok (.ifCond .eq 11, 3) := by decide +kernel
theorem dX9_edge_51 : decode cX9_edge 51 = .ok (.iload 4, 2) := by decide +kernel
theorem dX9_edge_53 : decode cX9_edge 53 = .ok (.invokestatic 169, 3) := by decide +kernel
theorem dX9_edge_56 : decode cX9_edge 56 = .ok (.ifCond .ne 5, 3) := by decide +kernel
theorem dX9_edge_59 : decode cX9_edge 59 = .ok (.iconst (-1), 1) := by decide +kernel
theorem dX9_edge_60 : decode cX9_edge 60 = .ok (.ireturn, 1) := by decide +kernel
theorem dX9_edge_61 : decode cX9_edge 61 = .ok (.aload_n 0, 1) := by decide +kernel
theorem dX9_edge_62 : decode cX9_edge 62 = .ok (.getfield 20, 3) := by decide +kernel
theorem dX9_edge_65 : decode cX9_edge 65 = .ok (.bipush 20, 2) := by decide +kernel
theorem dX9_edge_67 : decode cX9_edge 67 = .ok (.iload_n 1, 1) := by decide +kernel
theorem dX9_edge_68 : decode cX9_edge 68 = .ok (.imul, 1) := by decide +kernel
theorem dX9_edge_69 : decode cX9_edge 69 = .ok (.iload_n 2, 1) := by decide +kernel
theorem dX9_edge_70 : decode cX9_edge 70 = .ok (.iadd, 1) := by decide +kernel
theorem dX9_edge_71 : decode cX9_edge 71 = .ok (.iaload, 1) := by decide +kernel
theorem dX9_edge_72 : decode cX9_edge 72 = .ok (.istore 6, 2) := by decide +kernel
theorem dX9_edge_74 : decode cX9_edge 74 = .ok (.iload 6, 2) := by decide +kernel
theorem dX9_edge_76 : decode cX9_edge 76 = .ok (.iconst 3, 1) := by decide +kernel
theorem dX9_edge_77 : decode cX9_edge 77 = .ok (.if_icmp .eq 19, 3) := by decide +kernel
theorem dX9_edge_80 : decode cX9_edge 80 = .ok (.iload 6, 2) := by decide +kernel
theorem dX9_edge_82 : decode cX9_edge 82 = .ok (.iconst 4, 1) := by decide +kernel
theorem dX9_edge_83 : decode cX9_edge 83 = .ok (.if_icmp .eq 13, 3) := by decide +kernel
theorem dX9_edge_86 : decode cX9_edge 86 = .ok (.aload_n 0, 1) := by decide +kernel
theorem dX9_edge_87 : decode cX9_edge 87 = .ok (.iload_n 1, 1) := by decide +kernel
theorem dX9_edge_88 : decode cX9_edge 88 = .ok (.iload_n 2, 1) := by decide +kernel
theorem dX9_edge_89 : decode cX9_edge 89 = .ok (.invokevirtual 172, 3) := by decide +kernel
theorem dX9_edge_92 : decode cX9_edge 92 = .ok (.iconst 4, 1) := by decide +kernel
theorem dX9_edge_93 : decode cX9_edge 93 = .ok (.if_icmp .ne 5, 3) := by decide +kernel
theorem dX9_edge_96 : decode cX9_edge 96 = .ok (.iconst (-1), 1) := by decide +kernel
theorem dX9_edge_97 : decode cX9_edge 97 = .ok (.ireturn, 1) := by decide +kernel
theorem dX9_edge_98 : decode cX9_edge 98 = .ok (.bipush 40, 2) := by decide +kernel
theorem dX9_edge_100 : decode cX9_edge 100 = .ok (.iload_n 1, 1) := by decide +kernel
theorem dX9_edge_101 : decode cX9_edge 101 = .ok (.imul, 1) := by decide +kernel
theorem dX9_edge_102 : decode cX9_edge 102 = .ok (.aload_n 0, 1) := by decide +kernel
theorem dX9_edge_103 : decode cX9_edge 103 = .ok (.getfield 13, 3) := by decide +kernel
theorem dX9_edge_106 : decode cX9_edge 106 = .ok (.iload_n 1, 1) := by decide +kernel
theorem dX9_edge_107 : decode cX9_edge 107 = .ok (.iaload, 1) := by decide +kernel
theorem dX9_edge_108 : decode cX9_edge 108 = .ok (.iadd, 1) := by decide +kernel
theorem dX9_edge_109 : decode cX9_edge 109 = .ok (.istore 7, 2) := by decide +kernel
theorem dX9_edge_111 : decode cX9_edge 111 = .ok (.aload_n 0, 1) := by decide +kernel
theorem dX9_edge_112 : decode cX9_edge 112 = .ok (.getfield 26, 3) := by decide +kernel
theorem dX9_edge_115 : decode cX9_edge 115 = .ok (.iload 7, 2) := by decide +kernel
theorem dX9_edge_117 : decode cX9_edge 117 = .ok (.iload_n 2, 1) := by decide +kernel
theorem dX9_edge_118 : decode cX9_edge 118 = .ok (.iastore, 1) := by decide +kernel
theorem dX9_edge_119 : decode cX9_edge 119 = .ok (.aload_n 0, 1) := by decide +kernel
theorem dX9_edge_120 : decode cX9_edge 120 = .ok (.getfield 29, 3) := by decide +kernel
theorem dX9_edge_123 : decode cX9_edge 123 = .ok (.iload 7, 2) := by decide +kernel
theorem dX9_edge_125 : decode cX9_edge 125 = .ok (.iload_n 3, 1) := by decide +kernel
theorem dX9_edge_126 : decode cX9_edge 126 = .ok (.iastore, 1) := by decide +kernel
theorem dX9_edge_127 : decode cX9_edge 127 = .ok (.aload_n 0, 1) := by decide +kernel
theorem dX9_edge_128 : decode cX9_edge 128 = .ok (.getfield 32, 3) := by decide +kernel
theorem dX9_edge_131 : decode cX9_edge 131 = .ok (.iload 7, 2) := by decide +kernel
theorem dX9_edge_133 : decode cX9_edge 133 = .ok (.iload 4, 2) := by decide +kernel
theorem dX9_edge_135 : decode cX9_edge 135 = .ok (.iastore, 1) := by decide +kernel
theorem dX9_edge_136 : decode cX9_edge 136 = .ok (.aload_n 0, 1) := by decide +kernel
theorem dX9_edge_137 : decode cX9_edge 137 = .ok (.getfield 35, 3) := by decide +kernel
theorem dX9_edge_140 : decode cX9_edge 140 = .ok (.iload 7, 2) := by decide +kernel
theorem dX9_edge_142 : decode cX9_edge 142 = .ok (.iload 5, 2) := by decide +kernel
theorem dX9_edge_144 : decode cX9_edge 144 = .ok (.bastore, 1) := by decide +kernel
theorem dX9_edge_145 : decode cX9_edge 145 = .ok (.aload_n 0, 1) := by decide +kernel
theorem dX9_edge_146 : decode cX9_edge 146 = .ok (.getfield 38, 3) := by decide +kernel
theorem dX9_edge_149 : decode cX9_edge 149 = .ok (.iload 7, 2) := by decide +kernel
theorem dX9_edge_151 : decode cX9_edge 151 = .ok (.iconst 0, 1) := by decide +kernel
theorem dX9_edge_152 : decode cX9_edge 152 = .ok (.iastore, 1) := by decide +kernel
theorem dX9_edge_153 : decode cX9_edge 153 = .ok (.aload_n 0, 1) := by decide +kernel
theorem dX9_edge_154 : decode cX9_edge 154 = .ok (.getfield 13, 3) := by decide +kernel
theorem dX9_edge_157 : decode cX9_edge 157 = .ok (.iload_n 1, 1) := by decide +kernel
theorem dX9_edge_158 : decode cX9_edge 158 = .ok (.dup2, 1) := by decide +kernel
theorem dX9_edge_159 : decode cX9_edge 159 = .ok (.iaload, 1) := by decide +kernel
theorem dX9_edge_160 : decode cX9_edge 160 = .ok (.iconst 1, 1) := by decide +kernel
theorem dX9_edge_161 : decode cX9_edge 161 = .ok (.iadd, 1) := by decide +kernel
theorem dX9_edge_162 : decode cX9_edge 162 = .ok (.iastore, 1) := by decide +kernel
theorem dX9_edge_163 : decode cX9_edge 163 = .ok (.aload_n 0, 1) := by decide +kernel
theorem dX9_edge_164 : decode cX9_edge 164 = .ok (.getfield 13, 3) := by decide +kernel
theorem dX9_edge_167 : decode cX9_edge 167 = .ok (.iload_n 1, 1) := by decide +kernel
theorem dX9_edge_168 : decode cX9_edge 168 = .ok (.iaload, 1) := by decide +kernel
theorem dX9_edge_169 : decode cX9_edge 169 = .ok (.iconst 1, 1) := by decide +kernel
theorem dX9_edge_170 : decode cX9_edge 170 = .ok (.isub, 1) := by decide +kernel
theorem dX9_edge_171 : decode cX9_edge 171 = .ok (.ireturn, 1) := by decide +kernel
def f_X9_edge (a1 : Int32) (a2 : Int32) (a3 : Int32) (a4 : Int32) (a5 : Int32) (H : Hp) : Option (Int32 × Hp) := hl (sI H 0 0 34 0) (fun (H1 : Hp) => bnd (f_X9_isRoutine a1 H1) (fun w3 H2 => if w3 = 0 then some ((-1), H2) else gd a1 8 (if (gI H2 0 3 (Int32.toNatClampNeg a1)) = 0 then gd a1 8 (if (gI H2 0 2 (Int32.toNatClampNeg a1)) = 40 then some ((-1), H2) else bnd (f_X9_isBlock a1 a2 H2) (fun w8 H7 => if w8 = 0 then some ((-1), H7) else bnd (f_X9_isBlock a1 a3 H7) (fun w11 H10 => if w11 = 0 then some ((-1), H10) else bnd (f_X9_isGuess a4 H10) (fun w14 H13 => if w14 = 0 then some ((-1), H13) else gd ((20 * a1) + a2) 160 (vl ((gI H13 0 4 (Int32.toNatClampNeg ((20 * a1) + a2)))) (fun (v16 : Int32) => if v16 = 3 then some ((-1), H13) else if v16 = 4 then some ((-1), H13) else bnd (f_X9_outs a1 a2 H13) (fun w20 H19 => if w20 = 4 then some ((-1), H19) else gd a1 8 (vl (((40 * a1) + (gI H19 0 2 (Int32.toNatClampNeg a1)))) (fun (v22 : Int32) => gd v22 320 (hl (sI H19 0 6 (Int32.toNatClampNeg v22) a2) (fun (H23 : Hp) => gd v22 320 (hl (sI H23 0 7 (Int32.toNatClampNeg v22) a3) (fun (H24 : Hp) => gd v22 320 (hl (sI H24 0 8 (Int32.toNatClampNeg v22) a4) (fun (H25 : Hp) => gd v22 320 (hl (sI H25 0 9 (Int32.toNatClampNeg v22) (vp_nar .boolean a5)) (fun (H26 : Hp) => gd v22 320 (hl (sI H26 0 10 (Int32.toNatClampNeg v22) 0) (fun (H27 : Hp) => gd a1 8 (gd a1 8 (hl (sI H27 0 2 (Int32.toNatClampNeg a1) ((gI H27 0 2 (Int32.toNatClampNeg a1)) + 1)) (fun (H28 : Hp) => gd a1 8 (some (((gI H28 0 2 (Int32.toNatClampNeg a1)) - 1), H28)))))))))))))))))))))))) else some ((-1), H2))))
set_option maxRecDepth 100000 in
set_option maxHeartbeats 4000000 in
theorem s_X9_edge {p : Program} {l : Launch} {e : Env} {s : State} {m : MethodId} {args : Array Value} {below : List Frame} {meth : Method} {c : Code} {A : Nat → Prop} {D : va_G} {K4 : kQ} {ad : Nat → Nat → Nat} {nr : Nat} {a1 : Int32} {a2 : Int32} {a3 : Int32} {a4 : Int32} {a5 : Int32} {H : Hp} {res : Int32 × Hp} (hC : Cx p s m args c A s.heap D K4 8 RX9 cX9_edge) (hret : meth.sig.returnType = (some .int) ∧ meth.locks = false) (h : f_X9_edge a1 a2 a3 a4 a5 H = some res) : V p l e ({ frames := 2, cells := 0, slots := 0, locals := 43 }) s m args below meth c A s.heap (QI below args s A D K4 ad nr res) D K4 ad nr 8 0 [(0, .ref (ad 0 0)), (1, .int a1), (2, .int a2), (3, .int a3), (4, .int a4), (5, .int a5)] [] H := by
  unfold f_X9_edge at h
  refine V_aload_n hC 0 dX9_edge_0 rfl ?_
  refine V_iconst (v := 0) hC dX9_edge_1 (by decide) ?_
  refine V_putI (g := 0) (k := 0) hC 9 34 .int fw_X9_153 rfl rfl rfl rfl rfl dX9_edge_2 ?_
  refine V_hl h (fun H1 h => ?_)
  refine V_aload_n hC 0 dX9_edge_5 rfl ?_
  refine V_iload_n hC 1 dX9_edge_6 rfl ?_
  obtain ⟨w3, H2, hc, h⟩ := bnd_some h
  refine V_calli (g := 0) (k := 0) (As := [.int a1]) (st := []) hC (c_X9_isRoutine l hc) rfl ml_X9_160 ⟨Nat.le_of_ble_eq_true rfl, Nat.le_of_ble_eq_true rfl⟩ rfl rfl rfl (Nat.le_of_ble_eq_true rfl) dX9_edge_7 ?_
  refine V_if_eq (tgt := 59) hC dX9_edge_10 (by decide) (fun c4 => ?_) (fun c4 => ?_)
  · have h := it_pos c4 h
    refine V_iconst (v := -1) hC dX9_edge_59 (by decide) ?_
    exact V_iret hC hret dX9_edge_60 h
  · have h := it_neg c4 h
    refine V_aload_n hC 0 dX9_edge_13 rfl ?_
    refine V_getR (g := 0) (k := 0) (g' := 0) (k' := 3) hC 9 3 fl_X9_16 rfl rfl rfl rfl dX9_edge_14 ?_
    refine V_iload_n hC 1 dX9_edge_17 rfl ?_
    obtain ⟨hi, h⟩ := gd_some h
    refine V_zald (g := 0) (k := 3) hC rfl rfl hi dX9_edge_18 ?_
    refine V_if_ne (tgt := 59) hC dX9_edge_19 (by decide) (fun c5 => ?_) (fun c5 => ?_)
    · have h := it_neg c5 h
      refine V_iconst (v := -1) hC dX9_edge_59 (by decide) ?_
      exact V_iret hC hret dX9_edge_60 h
    · have h := it_pos c5 h
      refine V_aload_n hC 0 dX9_edge_22 rfl ?_
      refine V_getR (g := 0) (k := 0) (g' := 0) (k' := 2) hC 9 2 fl_X9_13 rfl rfl rfl rfl dX9_edge_23 ?_
      refine V_iload_n hC 1 dX9_edge_26 rfl ?_
      obtain ⟨hi, h⟩ := gd_some h
      refine V_iald (g := 0) (k := 2) hC rfl rfl hi dX9_edge_27 ?_
      refine V_bipush (v := 40) hC dX9_edge_28 (by decide) ?_
      refine V_icmp_eq (tgt := 59) hC dX9_edge_30 (by decide) (fun c6 => ?_) (fun c6 => ?_)
      · have h := it_pos c6 h
        refine V_iconst (v := -1) hC dX9_edge_59 (by decide) ?_
        exact V_iret hC hret dX9_edge_60 h
      · have h := it_neg c6 h
        refine V_aload_n hC 0 dX9_edge_33 rfl ?_
        refine V_iload_n hC 1 dX9_edge_34 rfl ?_
        refine V_iload_n hC 2 dX9_edge_35 rfl ?_
        obtain ⟨w8, H7, hc, h⟩ := bnd_some h
        refine V_calli (g := 0) (k := 0) (As := [.int a1, .int a2]) (st := []) hC (c_X9_isBlock l hc) rfl ml_X9_165 ⟨Nat.le_of_ble_eq_true rfl, Nat.le_of_ble_eq_true rfl⟩ rfl rfl rfl (Nat.le_of_ble_eq_true rfl) dX9_edge_36 ?_
        refine V_if_eq (tgt := 59) hC dX9_edge_39 (by decide) (fun c9 => ?_) (fun c9 => ?_)
        · have h := it_pos c9 h
          refine V_iconst (v := -1) hC dX9_edge_59 (by decide) ?_
          exact V_iret hC hret dX9_edge_60 h
        · have h := it_neg c9 h
          refine V_aload_n hC 0 dX9_edge_42 rfl ?_
          refine V_iload_n hC 1 dX9_edge_43 rfl ?_
          refine V_iload_n hC 3 dX9_edge_44 rfl ?_
          obtain ⟨w11, H10, hc, h⟩ := bnd_some h
          refine V_calli (g := 0) (k := 0) (As := [.int a1, .int a3]) (st := []) hC (c_X9_isBlock l hc) rfl ml_X9_165 ⟨Nat.le_of_ble_eq_true rfl, Nat.le_of_ble_eq_true rfl⟩ rfl rfl rfl (Nat.le_of_ble_eq_true rfl) dX9_edge_45 ?_
          refine V_if_eq (tgt := 59) hC dX9_edge_48 (by decide) (fun c12 => ?_) (fun c12 => ?_)
          · have h := it_pos c12 h
            refine V_iconst (v := -1) hC dX9_edge_59 (by decide) ?_
            exact V_iret hC hret dX9_edge_60 h
          · have h := it_neg c12 h
            refine V_iload hC 4 dX9_edge_51 rfl ?_
            obtain ⟨w14, H13, hc, h⟩ := bnd_some h
            refine V_callsi (As := [.int a4]) (st := []) hC (c_X9_isGuess l hc) rfl ml_X9_169 ⟨Nat.le_of_ble_eq_true rfl, Nat.le_of_ble_eq_true rfl⟩ rfl (Nat.le_of_ble_eq_true rfl) dX9_edge_53 ?_
            refine V_if_ne (tgt := 61) hC dX9_edge_56 (by decide) (fun c15 => ?_) (fun c15 => ?_)
            · have h := it_neg c15 h
              refine V_aload_n hC 0 dX9_edge_61 rfl ?_
              refine V_getR (g := 0) (k := 0) (g' := 0) (k' := 4) hC 9 4 fl_X9_20 rfl rfl rfl rfl dX9_edge_62 ?_
              refine V_bipush (v := 20) hC dX9_edge_65 (by decide) ?_
              refine V_iload_n hC 1 dX9_edge_67 rfl ?_
              refine V_imul hC dX9_edge_68 ?_
              refine V_iload_n hC 2 dX9_edge_69 rfl ?_
              refine V_iadd hC dX9_edge_70 ?_
              obtain ⟨hi, h⟩ := gd_some h
              refine V_iald (g := 0) (k := 4) hC rfl rfl hi dX9_edge_71 ?_
              refine V_vlI h (fun v16 h => ?_)
              refine V_istore (lv' := [(6, .int v16), (0, .ref (ad 0 0)), (1, .int a1), (2, .int a2), (3, .int a3), (4, .int a4), (5, .int a5)]) hC dX9_edge_72 (Nat.le_of_ble_eq_true rfl) rfl ?_
              refine V_iload hC 0 dX9_edge_74 rfl ?_
              refine V_iconst (v := 3) hC dX9_edge_76 (by decide) ?_
              refine V_icmp_eq (tgt := 96) hC dX9_edge_77 (by decide) (fun c17 => ?_) (fun c17 => ?_)
              · have h := it_pos c17 h
                refine V_iconst (v := -1) hC dX9_edge_96 (by decide) ?_
                exact V_iret hC hret dX9_edge_97 h
              · have h := it_neg c17 h
                refine V_iload hC 0 dX9_edge_80 rfl ?_
                refine V_iconst (v := 4) hC dX9_edge_82 (by decide) ?_
                refine V_icmp_eq (tgt := 96) hC dX9_edge_83 (by decide) (fun c18 => ?_) (fun c18 => ?_)
                · have h := it_pos c18 h
                  refine V_iconst (v := -1) hC dX9_edge_96 (by decide) ?_
                  exact V_iret hC hret dX9_edge_97 h
                · have h := it_neg c18 h
                  refine V_aload_n hC 1 dX9_edge_86 rfl ?_
                  refine V_iload_n hC 2 dX9_edge_87 rfl ?_
                  refine V_iload_n hC 3 dX9_edge_88 rfl ?_
                  obtain ⟨w20, H19, hc, h⟩ := bnd_some h
                  refine V_calli (g := 0) (k := 0) (As := [.int a1, .int a2]) (st := []) hC (c_X9_outs l hc) rfl ml_X9_172 ⟨Nat.le_of_ble_eq_true rfl, Nat.le_of_ble_eq_true rfl⟩ rfl rfl rfl (Nat.le_of_ble_eq_true rfl) dX9_edge_89 ?_
                  refine V_iconst (v := 4) hC dX9_edge_92 (by decide) ?_
                  refine V_icmp_ne (tgt := 98) hC dX9_edge_93 (by decide) (fun c21 => ?_) (fun c21 => ?_)
                  · have h := it_neg c21 h
                    refine V_bipush (v := 40) hC dX9_edge_98 (by decide) ?_
                    refine V_iload_n hC 2 dX9_edge_100 rfl ?_
                    refine V_imul hC dX9_edge_101 ?_
                    refine V_aload_n hC 1 dX9_edge_102 rfl ?_
                    refine V_getR (g := 0) (k := 0) (g' := 0) (k' := 2) hC 9 2 fl_X9_13 rfl rfl rfl rfl dX9_edge_103 ?_
                    refine V_iload_n hC 2 dX9_edge_106 rfl ?_
                    obtain ⟨hi, h⟩ := gd_some h
                    refine V_iald (g := 0) (k := 2) hC rfl rfl hi dX9_edge_107 ?_
                    refine V_iadd hC dX9_edge_108 ?_
                    refine V_vlI h (fun v22 h => ?_)
                    refine V_istore (lv' := [(7, .int v22), (6, .int v16), (0, .ref (ad 0 0)), (1, .int a1), (2, .int a2), (3, .int a3), (4, .int a4), (5, .int a5)]) hC dX9_edge_109 (Nat.le_of_ble_eq_true rfl) rfl ?_
                    refine V_aload_n hC 2 dX9_edge_111 rfl ?_
                    refine V_getR (g := 0) (k := 0) (g' := 0) (k' := 6) hC 9 6 fl_X9_26 rfl rfl rfl rfl dX9_edge_112 ?_
                    refine V_iload hC 0 dX9_edge_115 rfl ?_
                    refine V_iload_n hC 4 dX9_edge_117 rfl ?_
                    obtain ⟨hi, h⟩ := gd_some h
                    refine V_iast (g := 0) (k := 6) hC rfl rfl hi dX9_edge_118 ?_
                    refine V_hl h (fun H23 h => ?_)
                    refine V_aload_n hC 2 dX9_edge_119 rfl ?_
                    refine V_getR (g := 0) (k := 0) (g' := 0) (k' := 7) hC 9 7 fl_X9_29 rfl rfl rfl rfl dX9_edge_120 ?_
                    refine V_iload hC 0 dX9_edge_123 rfl ?_
                    refine V_iload_n hC 5 dX9_edge_125 rfl ?_
                    obtain ⟨hi, h⟩ := gd_some h
                    refine V_iast (g := 0) (k := 7) hC rfl rfl hi dX9_edge_126 ?_
                    refine V_hl h (fun H24 h => ?_)
                    refine V_aload_n hC 2 dX9_edge_127 rfl ?_
                    refine V_getR (g := 0) (k := 0) (g' := 0) (k' := 8) hC 9 8 fl_X9_32 rfl rfl rfl rfl dX9_edge_128 ?_
                    refine V_iload hC 0 dX9_edge_131 rfl ?_
                    refine V_iload hC 6 dX9_edge_133 rfl ?_
                    obtain ⟨hi, h⟩ := gd_some h
                    refine V_iast (g := 0) (k := 8) hC rfl rfl hi dX9_edge_135 ?_
                    refine V_hl h (fun H25 h => ?_)
                    refine V_aload_n hC 2 dX9_edge_136 rfl ?_
                    refine V_getR (g := 0) (k := 0) (g' := 0) (k' := 9) hC 9 9 fl_X9_35 rfl rfl rfl rfl dX9_edge_137 ?_
                    refine V_iload hC 0 dX9_edge_140 rfl ?_
                    refine V_iload hC 7 dX9_edge_142 rfl ?_
                    obtain ⟨hi, h⟩ := gd_some h
                    refine V_zast (g := 0) (k := 9) hC rfl rfl hi dX9_edge_144 ?_
                    refine V_hl h (fun H26 h => ?_)
                    refine V_aload_n hC 2 dX9_edge_145 rfl ?_
                    refine V_getR (g := 0) (k := 0) (g' := 0) (k' := 10) hC 9 10 fl_X9_38 rfl rfl rfl rfl dX9_edge_146 ?_
                    refine V_iload hC 0 dX9_edge_149 rfl ?_
                    refine V_iconst (v := 0) hC dX9_edge_151 (by decide) ?_
                    obtain ⟨hi, h⟩ := gd_some h
                    refine V_iast (g := 0) (k := 10) hC rfl rfl hi dX9_edge_152 ?_
                    refine V_hl h (fun H27 h => ?_)
                    refine V_aload_n hC 2 dX9_edge_153 rfl ?_
                    refine V_getR (g := 0) (k := 0) (g' := 0) (k' := 2) hC 9 2 fl_X9_13 rfl rfl rfl rfl dX9_edge_154 ?_
                    refine V_iload_n hC 3 dX9_edge_157 rfl ?_
                    refine V_dup2 hC dX9_edge_158 rfl rfl ?_
                    obtain ⟨hi, h⟩ := gd_some h
                    refine V_iald (g := 0) (k := 2) hC rfl rfl hi dX9_edge_159 ?_
                    refine V_iconst (v := 1) hC dX9_edge_160 (by decide) ?_
                    refine V_iadd hC dX9_edge_161 ?_
                    obtain ⟨hi, h⟩ := gd_some h
                    refine V_iast (g := 0) (k := 2) hC rfl rfl hi dX9_edge_162 ?_
                    refine V_hl h (fun H28 h => ?_)
                    refine V_aload_n hC 2 dX9_edge_163 rfl ?_
                    refine V_getR (g := 0) (k := 0) (g' := 0) (k' := 2) hC 9 2 fl_X9_13 rfl rfl rfl rfl dX9_edge_164 ?_
                    refine V_iload_n hC 3 dX9_edge_167 rfl ?_
                    obtain ⟨hi, h⟩ := gd_some h
                    refine V_iald (g := 0) (k := 2) hC rfl rfl hi dX9_edge_168 ?_
                    refine V_iconst (v := 1) hC dX9_edge_169 (by decide) ?_
                    refine V_isub hC dX9_edge_170 ?_
                    exact V_iret hC hret dX9_edge_171 h
                  · have h := it_pos c21 h
                    refine V_iconst (v := -1) hC dX9_edge_96 (by decide) ?_
                    exact V_iret hC hret dX9_edge_97 h
            · have h := it_pos c15 h
              refine V_iconst (v := -1) hC dX9_edge_59 (by decide) ?_
              exact V_iret hC hret dX9_edge_60 h
theorem c_X9_edge (l : Launch) {nr : Nat} {a1 : Int32} {a2 : Int32} {a3 : Int32} {a4 : Int32} {a5 : Int32} {H : Hp} {x : Int32} {H' : Hp} (h : f_X9_edge a1 a2 a3 a4 a5 H = some (x, H')) : CI l nr yX9_edge cX9_edge 8 (some .int) 2 43 (fun ad => [.ref (ad 0 0), .int a1, .int a2, .int a3, .int a4, .int a5]) H x H' := by
  intro D K4 ad sz
  refine Met.ofV (by decide) (Nat.le_of_ble_eq_true rfl) ?_
  intro p e s m args below meth c hC hret hsz
  subst hsz
  exact s_X9_edge hC hret h
theorem dX9_guess_0 : decode cX9_guess 0 = .ok (.aload_n 0, 1) := by decide +kernel
theorem dX9_guess_1 : decode cX9_guess 1 = .ok (.iconst 0, 1) := by decide +kernel
theorem dX9_guess_2 : decode cX9_guess 2 = .ok (.putfield 153, 3) := by decide +kernel
theorem dX9_guess_5 : decode cX9_guess 5 = .ok (.aload_n 0, 1) := by decide +kernel
theorem dX9_guess_6 : decode cX9_guess 6 = .ok (.iload_n 1, 1) := by decide +kernel
theorem dX9_guess_7 : decode cX9_guess 7 = .ok (.iload_n 2, 1) := by decide +kernel
theorem dX9_guess_8 : decode cX9_guess 8 = .ok (.invokevirtual 176, 3) := by decide +kernel
theorem dX9_guess_11 : decode cX9_guess 11 = .ok (.ifCond .eq 10, 3) := by decide +kernel
theorem dX9_guess_14 : decode cX9_guess 14 = .ok (.iload_n 3, 1) := by decide +kernel
theorem dX9_guess_15 : decode cX9_guess 15 = .ok (.invokestatic 169, 3) := by decide +kernel
theorem dX9_guess_18 : decode cX9_guess 18 = .ok (.ifCond .ne 5, 3) := by decide +kernel
theorem dX9_guess_21 : decode cX9_guess 21 = .ok (.iconst 0, 1) := by decide +kernel
theorem dX9_guess_22 : decode cX9_guess 22 = .ok (.ireturn, 1) := by decide +kernel
theorem dX9_guess_23 : decode cX9_guess 23 = .ok (.aload_n 0, 1) := by decide +kernel
theorem dX9_guess_24 : decode cX9_guess 24 = .ok (.getfield 32, 3) := by decide +kernel
theorem dX9_guess_27 : decode cX9_guess 27 = .ok (.bipush 40, 2) := by decide +kernel
theorem dX9_guess_29 : decode cX9_guess 29 = .ok (.iload_n 1, 1) := by decide +kernel
theorem dX9_guess_30 : decode cX9_guess 30 = .ok (.imul, 1) := by decide +kernel
theorem dX9_guess_31 : decode cX9_guess 31 = .ok (.iload_n 2, 1) := by decide +kernel
theorem dX9_guess_32 : decode cX9_guess 32 = .ok (.iadd, 1) := by decide +kernel
theorem dX9_guess_33 : decode cX9_guess 33 = .ok (.iload_n 3, 1) := by decide +kernel
theorem dX9_guess_34 : decode cX9_guess 34 = .ok (.iastore, 1) := by decide +kernel
theorem dX9_guess_35 : decode cX9_guess 35 = .ok (.iconst 1, 1) := by decide +kernel
theorem dX9_guess_36 : decode cX9_guess 36 = .ok (.ireturn, 1) := by decide +kernel
def f_X9_guess (a1 : Int32) (a2 : Int32) (a3 : Int32) (H : Hp) : Option (Int32 × Hp) := hl (sI H 0 0 34 0) (fun (H1 : Hp) => bnd (f_X9_isEdge a1 a2 H1) (fun w3 H2 => if w3 = 0 then some (0, H2) else bnd (f_X9_isGuess a3 H2) (fun w6 H5 => if w6 = 0 then some (0, H5) else gd ((40 * a1) + a2) 320 (hl (sI H5 0 8 (Int32.toNatClampNeg ((40 * a1) + a2)) a3) (fun (H8 : Hp) => some (1, H8))))))
set_option maxRecDepth 100000 in
set_option maxHeartbeats 4000000 in
theorem s_X9_guess {p : Program} {l : Launch} {e : Env} {s : State} {m : MethodId} {args : Array Value} {below : List Frame} {meth : Method} {c : Code} {A : Nat → Prop} {D : va_G} {K4 : kQ} {ad : Nat → Nat → Nat} {nr : Nat} {a1 : Int32} {a2 : Int32} {a3 : Int32} {H : Hp} {res : Int32 × Hp} (hC : Cx p s m args c A s.heap D K4 4 RX9 cX9_guess) (hret : meth.sig.returnType = (some .boolean) ∧ meth.locks = false) (h : f_X9_guess a1 a2 a3 H = some res) : V p l e ({ frames := 2, cells := 0, slots := 0, locals := 43 }) s m args below meth c A s.heap (QI below args s A D K4 ad nr res) D K4 ad nr 4 0 [(0, .ref (ad 0 0)), (1, .int a1), (2, .int a2), (3, .int a3)] [] H := by
  unfold f_X9_guess at h
  refine V_aload_n hC 0 dX9_guess_0 rfl ?_
  refine V_iconst (v := 0) hC dX9_guess_1 (by decide) ?_
  refine V_putI (g := 0) (k := 0) hC 9 34 .int fw_X9_153 rfl rfl rfl rfl rfl dX9_guess_2 ?_
  refine V_hl h (fun H1 h => ?_)
  refine V_aload_n hC 0 dX9_guess_5 rfl ?_
  refine V_iload_n hC 1 dX9_guess_6 rfl ?_
  refine V_iload_n hC 2 dX9_guess_7 rfl ?_
  obtain ⟨w3, H2, hc, h⟩ := bnd_some h
  refine V_calli (g := 0) (k := 0) (As := [.int a1, .int a2]) (st := []) hC (c_X9_isEdge l hc) rfl ml_X9_176 ⟨Nat.le_of_ble_eq_true rfl, Nat.le_of_ble_eq_true rfl⟩ rfl rfl rfl (Nat.le_of_ble_eq_true rfl) dX9_guess_8 ?_
  refine V_if_eq (tgt := 21) hC dX9_guess_11 (by decide) (fun c4 => ?_) (fun c4 => ?_)
  · have h := it_pos c4 h
    refine V_iconst (v := 0) hC dX9_guess_21 (by decide) ?_
    exact V_zret hC hret (by decide) dX9_guess_22 h
  · have h := it_neg c4 h
    refine V_iload_n hC 3 dX9_guess_14 rfl ?_
    obtain ⟨w6, H5, hc, h⟩ := bnd_some h
    refine V_callsi (As := [.int a3]) (st := []) hC (c_X9_isGuess l hc) rfl ml_X9_169 ⟨Nat.le_of_ble_eq_true rfl, Nat.le_of_ble_eq_true rfl⟩ rfl (Nat.le_of_ble_eq_true rfl) dX9_guess_15 ?_
    refine V_if_ne (tgt := 23) hC dX9_guess_18 (by decide) (fun c7 => ?_) (fun c7 => ?_)
    · have h := it_neg c7 h
      refine V_aload_n hC 0 dX9_guess_23 rfl ?_
      refine V_getR (g := 0) (k := 0) (g' := 0) (k' := 8) hC 9 8 fl_X9_32 rfl rfl rfl rfl dX9_guess_24 ?_
      refine V_bipush (v := 40) hC dX9_guess_27 (by decide) ?_
      refine V_iload_n hC 1 dX9_guess_29 rfl ?_
      refine V_imul hC dX9_guess_30 ?_
      refine V_iload_n hC 2 dX9_guess_31 rfl ?_
      refine V_iadd hC dX9_guess_32 ?_
      refine V_iload_n hC 3 dX9_guess_33 rfl ?_
      obtain ⟨hi, h⟩ := gd_some h
      refine V_iast (g := 0) (k := 8) hC rfl rfl hi dX9_guess_34 ?_
      refine V_hl h (fun H8 h => ?_)
      refine V_iconst (v := 1) hC dX9_guess_35 (by decide) ?_
      exact V_zret hC hret (by decide) dX9_guess_36 h
    · have h := it_pos c7 h
      refine V_iconst (v := 0) hC dX9_guess_21 (by decide) ?_
      exact V_zret hC hret (by decide) dX9_guess_22 h
theorem c_X9_guess (l : Launch) {nr : Nat} {a1 : Int32} {a2 : Int32} {a3 : Int32} {H : Hp} {x : Int32} {H' : Hp} (h : f_X9_guess a1 a2 a3 H = some (x, H')) : CI l nr yX9_guess cX9_guess 4 (some .boolean) 2 43 (fun ad => [.ref (ad 0 0), .int a1, .int a2, .int a3]) H x H' := by
  intro D K4 ad sz
  refine Met.ofV (by decide) (Nat.le_of_ble_eq_true rfl) ?_
  intro p e s m args below meth c hC hret hsz
  subst hsz
  exact s_X9_guess hC hret h
theorem dX9_reach_0 : decode cX9_reach 0 = .ok (.iconst 1, 1) := by decide +kernel
theorem dX9_reach_1 : decode cX9_reach 1 = .ok (.istore_n 3, 1) := by decide +kernel
theorem dX9_reach_2 : decode cX9_reach 2 = .ok (.iload_n 3, 1) := by decide +kernel
theorem dX9_reach_3 : decode cX9_reach 3 = .ok (.ifCond .eq 112, 3) := by decide +kernel
theorem dX9_reach_6 : decode cX9_reach 6 = .ok (.iconst 0, 1) := by decide +kernel
theorem dX9_reach_7 : decode cX9_reach 7 = .ok (.istore_n 3, 1) := by decide +kernel
theorem dX9_reach_8 : decode cX9_reach 8 = .ok (.bipush 40, 2) := by decide +kernel
theorem dX9_reach_10 : decode cX9_reach 10 = .ok (.iload_n 1, 1) := by decide +kernel
theorem dX9_reach_11 : decode cX9_reach 11 = .ok (.imul, 1) := by decide +kernel
theorem dX9_reach_12 : decode cX9_reach 12 = .ok (.istore 4, 2) := by decide +kernel
theorem dX9_reach_14 : decode cX9_reach 14 = .ok (.iload 4, 2) := by decide +kernel
theorem dX9_reach_16 : decode cX9_reach 16 = .ok (.bipush 40, 2) := by decide +kernel
theorem dX9_reach_18 : decode cX9_reach 18 = .ok (.iload_n 1, 1) := by decide +kernel
theorem dX9_reach_19 : decode cX9_reach 19 = .ok (.imul, 1) := by decide +kernel
theorem dX9_reach_20 : decode cX9_reach 20 = .ok (.aload_n 0, 1) := by decide +kernel
theorem dX9_reach_21 : decode cX9_reach 21 = .ok (.getfield 13, 3) := by decide +kernel
theorem dX9_reach_24 : decode cX9_reach 24 = .ok (.iload_n 1, 1) := by decide +kernel
theorem dX9_reach_25 : decode cX9_reach 25 = .ok (.iaload, 1) := by decide +kernel
theorem dX9_reach_26 : decode cX9_reach 26 = .ok (.iadd, 1) := by decide +kernel
theorem dX9_reach_27 : decode cX9_reach 27 = .ok (.if_icmp .ge 85, 3) := by decide +kernel
theorem dX9_reach_30 : decode cX9_reach 30 = .ok (.iload_n 2, 1) := by decide +kernel
theorem dX9_reach_31 : decode cX9_reach 31 = .ok (.ifCond .eq 13, 3) := by decide +kernel
theorem dX9_reach_34 : decode cX9_reach 34 = .ok (.aload_n 0, 1) := by decide +kernel
theorem dX9_reach_35 : decode cX9_reach 35 = .ok (.getfield 26, 3) := by decide +kernel
theorem dX9_reach_38 : decode cX9_reach 38 = .ok (.iload 4, 2) := by decide +kernel
theorem dX9_reach_40 : decode cX9_reach 40 = .ok (.iaload, 1) := by decide +kernel
theorem dX9_reach_41 : decode cX9_reach 41 = .ok (.goto 10, 3) := by decide +kernel
theorem dX9_reach_44 : decode cX9_reach 44 = .ok (.aload_n 0, 1) := by decide +kernel
theorem dX9_reach_45 : decode cX9_reach 45 = .ok (.getfield 29, 3) := by decide +kernel
theorem dX9_reach_48 : decode cX9_reach 48 = .ok (.iload 4, 2) := by decide +kernel
theorem dX9_reach_50 : decode cX9_reach 50 = .ok (.iaload, 1) := by decide +kernel
theorem dX9_reach_51 : decode cX9_reach 51 = .ok (.istore 5, 2) := by decide +kernel
theorem dX9_reach_53 : decode cX9_reach 53 = .ok (.iload_n 2, 1) := by decide +kernel
theorem dX9_reach_54 : decode cX9_reach 54 = .ok (.ifCond .eq 13, 3) := by decide +kernel
theorem dX9_reach_57 : decode cX9_reach 57 = .ok (.aload_n 0, 1) := by decide +kernel
theorem dX9_reach_58 : decode cX9_reach 58 = .ok (.getfield 29, 3) := by decide +kernel
theorem dX9_reach_61 : decode cX9_reach 61 = .ok (.iload 4, 2) := by decide +kernel
theorem dX9_reach_63 : decode cX9_reach 63 = .ok (.iaload, 1) := by decide +kernel
theorem dX9_reach_64 : decode cX9_reach 64 = .ok (.goto 10, 3) := by decide +kernel
theorem dX9_reach_67 : decode cX9_reach 67 = .ok (.aload_n 0, 1) := by decide +kernel
theorem dX9_reach_68 : decode cX9_reach 68 = .ok (.getfield 26, 3) := by decide +kernel
theorem dX9_reach_71 : decode cX9_reach 71 = .ok (.iload 4, 2) := by decide +kernel
theorem dX9_reach_73 : decode cX9_reach 73 = .ok (.iaload, 1) := by decide +kernel
theorem dX9_reach_74 : decode cX9_reach 74 = .ok (.istore 6, 2) := by decide +kernel
theorem dX9_reach_76 : decode cX9_reach 76 = .ok (.aload_n 0, 1) := by decide +kernel
theorem dX9_reach_77 : decode cX9_reach 77 = .ok (.getfield 99, 3) := by decide +kernel
theorem dX9_reach_80 : decode cX9_reach 80 = .ok (.iload 5, 2) := by decide +kernel
theorem dX9_reach_82 : decode cX9_reach 82 = .ok (.baload, 1) := by decide +kernel
theorem dX9_reach_83 : decode cX9_reach 83 = .ok (.ifCond .eq 23, 3) := by decide +kernel
theorem dX9_reach_86 : decode cX9_reach 86 = .ok (.aload_n 0, 1) := by decide +kernel
theorem dX9_reach_87 : decode cX9_reach 87 = .ok (.getfield 99, 3) := by decide +kernel
theorem dX9_reach_90 : decode cX9_reach 90 = .ok (.iload 6, 2) := by decide +kernel
theorem dX9_reach_92 : decode cX9_reach 92 = .ok (.baload, 1) := by decide +kernel
theorem dX9_reach_93 : decode cX9_reach 93 = .ok (.ifCond .ne 13, 3) := by decide +kernel
theorem dX9_reach_96 : decode cX9_reach 96 = .ok (.aload_n 0, 1) := by decide +kernel
theorem dX9_reach_97 : decode cX9_reach 97 = .ok (.getfield 99, 3) := by decide +kernel
theorem dX9_reach_100 : decode cX9_reach 100 = .ok (.iload 6, 2) := by decide +kernel
theorem dX9_reach_102 : decode cX9_reach 102 = .ok (.iconst 1, 1) := by decide +kernel
theorem dX9_reach_103 : decode cX9_reach 103 = .ok (.bastore, 1) := by decide +kernel
theorem dX9_reach_104 : decode cX9_reach 104 = .ok (.iconst 1, 1) := by decide +kernel
theorem dX9_reach_105 : decode cX9_reach 105 = .ok (.istore_n 3, 1) := by decide +kernel
theorem dX9_reach_106 : decode cX9_reach 106 = .ok (.iinc 4 1, 3) := by decide +kernel
theorem dX9_reach_109 : decode cX9_reach 109 = .ok (.goto (-95), 3) := by decide +kernel
theorem dX9_reach_112 : decode cX9_reach 112 = .ok (.goto (-110), 3) := by decide +kernel
theorem dX9_reach_115 : decode cX9_reach 115 = .ok (.return_, 1) := by decide +kernel
def L_X9_reach_14 (b1 : Int32) (b2 : Int32) (k : Int32 → Hp → Option (Unit × Hp)) : Nat → Int32 → Int32 → Hp → Option (Unit × Hp)
  | 0, _, _, _ => none
  | n + 1, x3, x4, H => gd b1 8 (if ((40 * b1) + (gI H 0 2 (Int32.toNatClampNeg b1))) ≤ x4 then k x3 H else jn (fun (y5 : Int32) (H6 : Hp) => jn (fun (y8 : Int32) (H9 : Hp) => gd y5 21 (if (gI H9 0 35 (Int32.toNatClampNeg y5)) = 0 then vl (x4 + (1 : Int32)) (fun (v11 : Int32) => L_X9_reach_14 b1 b2 k n x3 v11 H9) else gd y8 21 (if (gI H9 0 35 (Int32.toNatClampNeg y8)) = 0 then gd y8 21 (hl (sI H9 0 35 (Int32.toNatClampNeg y8) (vp_nar .boolean 1)) (fun (H14 : Hp) => vl (x4 + (1 : Int32)) (fun (v15 : Int32) => L_X9_reach_14 b1 b2 k n 1 v15 H14))) else vl (x4 + (1 : Int32)) (fun (v13 : Int32) => L_X9_reach_14 b1 b2 k n x3 v13 H9)))) (fun j7 => if b2 = 0 then gd x4 320 (j7 ((gI H6 0 6 (Int32.toNatClampNeg x4))) H6) else gd x4 320 (j7 ((gI H6 0 7 (Int32.toNatClampNeg x4))) H6))) (fun j4 => if b2 = 0 then gd x4 320 (j4 ((gI H 0 7 (Int32.toNatClampNeg x4))) H) else gd x4 320 (j4 ((gI H 0 6 (Int32.toNatClampNeg x4))) H)))
set_option maxRecDepth 100000 in
set_option maxHeartbeats 4000000 in
theorem sL_X9_reach_14 {p : Program} {l : Launch} {e : Env} {s : State} {m : MethodId} {args : Array Value} {below : List Frame} {meth : Method} {c : Code} {A : Nat → Prop} {D : va_G} {K4 : kQ} {ad : Nat → Nat → Nat} {nr : Nat} {b1 : Int32} {b2 : Int32} {k : Int32 → Hp → Option (Unit × Hp)} {res : Unit × Hp} (hC : Cx p s m args c A s.heap D K4 7 RX9 cX9_reach) (hret : meth.sig.returnType = none ∧ meth.locks = false) (hk : ∀ (z3 : Int32) (H : Hp), k z3 H = some res → V p l e ({ frames := 0, cells := 0, slots := 0, locals := 0 }) s m args below meth c A s.heap (QU below args s A D K4 ad nr res) D K4 ad nr 7 112 [(0, .ref (ad 0 0)), (1, .int b1), (2, .int b2), (3, .int z3)] [] H) : ∀ (n : Nat) (x3 : Int32) (x4 : Int32) (H : Hp), L_X9_reach_14 b1 b2 k n x3 x4 H = some res → V p l e ({ frames := 0, cells := 0, slots := 0, locals := 0 }) s m args below meth c A s.heap (QU below args s A D K4 ad nr res) D K4 ad nr 7 14 [(0, .ref (ad 0 0)), (1, .int b1), (2, .int b2), (3, .int x3), (4, .int x4)] [] H := by
  intro n
  induction n with
  | zero => intro x3 x4 H h; exact nomatch (show (none : Option (Unit × Hp)) = some res from h)
  | succ n ih =>
    intro x3 x4 H h
    rw [L_X9_reach_14] at h
    refine V_iload hC 4 dX9_reach_14 rfl ?_
    refine V_bipush (v := 40) hC dX9_reach_16 (by decide) ?_
    refine V_iload_n hC 1 dX9_reach_18 rfl ?_
    refine V_imul hC dX9_reach_19 ?_
    refine V_aload_n hC 0 dX9_reach_20 rfl ?_
    refine V_getR (g := 0) (k := 0) (g' := 0) (k' := 2) hC 9 2 fl_X9_13 rfl rfl rfl rfl dX9_reach_21 ?_
    refine V_iload_n hC 1 dX9_reach_24 rfl ?_
    obtain ⟨hi, h⟩ := gd_some h
    refine V_iald (g := 0) (k := 2) hC rfl rfl hi dX9_reach_25 ?_
    refine V_iadd hC dX9_reach_26 ?_
    refine V_icmp_ge (tgt := 112) hC dX9_reach_27 (by decide) (fun c3 => ?_) (fun c3 => ?_)
    · have h := it_pos c3 h
      refine V_lv (lv' := [(0, .ref (ad 0 0)), (1, .int b1), (2, .int b2), (3, .int x3)]) [0, 1, 2, 3] rfl ?_
      exact hk x3 H h
    · have h := it_neg c3 h
      refine V_iload_n hC 2 dX9_reach_30 rfl ?_
      refine V_jn1 (pj := 51) (lj := fun y5 => [(0, .ref (ad 0 0)), (1, .int b1), (2, .int b2), (3, .int x3), (4, .int x4)]) (sj := fun y5 => [.int y5]) h (fun y5 H6 h => ?_) (fun hj4 h => ?_)
      · refine V_istore (lv' := [(5, .int y5), (0, .ref (ad 0 0)), (1, .int b1), (2, .int b2), (3, .int x3), (4, .int x4)]) hC dX9_reach_51 (Nat.le_of_ble_eq_true rfl) rfl ?_
        refine V_iload_n hC 3 dX9_reach_53 rfl ?_
        refine V_jn1 (pj := 74) (lj := fun y8 => [(0, .ref (ad 0 0)), (1, .int b1), (2, .int b2), (3, .int x3), (4, .int x4), (5, .int y5)]) (sj := fun y8 => [.int y8]) h (fun y8 H9 h => ?_) (fun hj7 h => ?_)
        · refine V_istore (lv' := [(6, .int y8), (0, .ref (ad 0 0)), (1, .int b1), (2, .int b2), (3, .int x3), (4, .int x4), (5, .int y5)]) hC dX9_reach_74 (Nat.le_of_ble_eq_true rfl) rfl ?_
          refine V_aload_n hC 1 dX9_reach_76 rfl ?_
          refine V_getR (g := 0) (k := 0) (g' := 0) (k' := 35) hC 9 35 fl_X9_99 rfl rfl rfl rfl dX9_reach_77 ?_
          refine V_iload hC 6 dX9_reach_80 rfl ?_
          obtain ⟨hi, h⟩ := gd_some h
          refine V_zald (g := 0) (k := 35) hC rfl rfl hi dX9_reach_82 ?_
          refine V_if_eq (tgt := 106) hC dX9_reach_83 (by decide) (fun c10 => ?_) (fun c10 => ?_)
          · have h := it_pos c10 h
            refine V_vi h (fun v11 hvv11 h => ?_)
            refine V_iinc (v := v11) (lv' := [(4, .int v11), (6, .int y8), (0, .ref (ad 0 0)), (1, .int b1), (2, .int b2), (3, .int x3), (5, .int y5)]) hC 5 dX9_reach_106 rfl hvv11.symm (Nat.le_of_ble_eq_true rfl) rfl ?_
            refine V_goto (tgt := 14) hC dX9_reach_109 (by decide) ?_
            refine V_lv (lv' := [(0, .ref (ad 0 0)), (1, .int b1), (2, .int b2), (3, .int x3), (4, .int v11)]) [2, 3, 4, 5, 0] rfl ?_
            exact ih x3 v11 H9 h
          · have h := it_neg c10 h
            refine V_aload_n hC 1 dX9_reach_86 rfl ?_
            refine V_getR (g := 0) (k := 0) (g' := 0) (k' := 35) hC 9 35 fl_X9_99 rfl rfl rfl rfl dX9_reach_87 ?_
            refine V_iload hC 0 dX9_reach_90 rfl ?_
            obtain ⟨hi, h⟩ := gd_some h
            refine V_zald (g := 0) (k := 35) hC rfl rfl hi dX9_reach_92 ?_
            refine V_if_ne (tgt := 106) hC dX9_reach_93 (by decide) (fun c12 => ?_) (fun c12 => ?_)
            · have h := it_neg c12 h
              refine V_vi h (fun v13 hvv13 h => ?_)
              refine V_iinc (v := v13) (lv' := [(4, .int v13), (6, .int y8), (0, .ref (ad 0 0)), (1, .int b1), (2, .int b2), (3, .int x3), (5, .int y5)]) hC 5 dX9_reach_106 rfl hvv13.symm (Nat.le_of_ble_eq_true rfl) rfl ?_
              refine V_goto (tgt := 14) hC dX9_reach_109 (by decide) ?_
              refine V_lv (lv' := [(0, .ref (ad 0 0)), (1, .int b1), (2, .int b2), (3, .int x3), (4, .int v13)]) [2, 3, 4, 5, 0] rfl ?_
              exact ih x3 v13 H9 h
            · have h := it_pos c12 h
              refine V_aload_n hC 1 dX9_reach_96 rfl ?_
              refine V_getR (g := 0) (k := 0) (g' := 0) (k' := 35) hC 9 35 fl_X9_99 rfl rfl rfl rfl dX9_reach_97 ?_
              refine V_iload hC 0 dX9_reach_100 rfl ?_
              refine V_iconst (v := 1) hC dX9_reach_102 (by decide) ?_
              obtain ⟨hi, h⟩ := gd_some h
              refine V_zast (g := 0) (k := 35) hC rfl rfl hi dX9_reach_103 ?_
              refine V_hl h (fun H14 h => ?_)
              refine V_iconst (v := 1) hC dX9_reach_104 (by decide) ?_
              refine V_istore_n (lv' := [(3, .int 1), (6, .int y8), (0, .ref (ad 0 0)), (1, .int b1), (2, .int b2), (4, .int x4), (5, .int y5)]) hC dX9_reach_105 (Nat.le_of_ble_eq_true rfl) rfl ?_
              refine V_vi h (fun v15 hvv15 h => ?_)
              refine V_iinc (v := v15) (lv' := [(4, .int v15), (3, .int 1), (6, .int y8), (0, .ref (ad 0 0)), (1, .int b1), (2, .int b2), (5, .int y5)]) hC 5 dX9_reach_106 rfl hvv15.symm (Nat.le_of_ble_eq_true rfl) rfl ?_
              refine V_goto (tgt := 14) hC dX9_reach_109 (by decide) ?_
              refine V_lv (lv' := [(0, .ref (ad 0 0)), (1, .int b1), (2, .int b2), (3, .int 1), (4, .int v15)]) [3, 4, 5, 1, 0] rfl ?_
              exact ih 1 v15 H14 h
        · refine V_if_eq (tgt := 67) hC dX9_reach_54 (by decide) (fun c16 => ?_) (fun c16 => ?_)
          · have h := it_pos c16 h
            refine V_aload_n hC 1 dX9_reach_67 rfl ?_
            refine V_getR (g := 0) (k := 0) (g' := 0) (k' := 6) hC 9 6 fl_X9_26 rfl rfl rfl rfl dX9_reach_68 ?_
            refine V_iload hC 5 dX9_reach_71 rfl ?_
            obtain ⟨hi, h⟩ := gd_some h
            refine V_iald (g := 0) (k := 6) hC rfl rfl hi dX9_reach_73 ?_
            refine V_lv (lv' := [(0, .ref (ad 0 0)), (1, .int b1), (2, .int b2), (3, .int x3), (4, .int x4), (5, .int y5)]) [1, 2, 3, 4, 5, 0] rfl ?_
            exact hj7 ((gI H6 0 6 (Int32.toNatClampNeg x4))) H6 h
          · have h := it_neg c16 h
            refine V_aload_n hC 1 dX9_reach_57 rfl ?_
            refine V_getR (g := 0) (k := 0) (g' := 0) (k' := 7) hC 9 7 fl_X9_29 rfl rfl rfl rfl dX9_reach_58 ?_
            refine V_iload hC 5 dX9_reach_61 rfl ?_
            obtain ⟨hi, h⟩ := gd_some h
            refine V_iald (g := 0) (k := 7) hC rfl rfl hi dX9_reach_63 ?_
            refine V_goto (tgt := 74) hC dX9_reach_64 (by decide) ?_
            refine V_lv (lv' := [(0, .ref (ad 0 0)), (1, .int b1), (2, .int b2), (3, .int x3), (4, .int x4), (5, .int y5)]) [1, 2, 3, 4, 5, 0] rfl ?_
            exact hj7 ((gI H6 0 7 (Int32.toNatClampNeg x4))) H6 h
      · refine V_if_eq (tgt := 44) hC dX9_reach_31 (by decide) (fun c17 => ?_) (fun c17 => ?_)
        · have h := it_pos c17 h
          refine V_aload_n hC 0 dX9_reach_44 rfl ?_
          refine V_getR (g := 0) (k := 0) (g' := 0) (k' := 7) hC 9 7 fl_X9_29 rfl rfl rfl rfl dX9_reach_45 ?_
          refine V_iload hC 4 dX9_reach_48 rfl ?_
          obtain ⟨hi, h⟩ := gd_some h
          refine V_iald (g := 0) (k := 7) hC rfl rfl hi dX9_reach_50 ?_
          refine V_lv (lv' := [(0, .ref (ad 0 0)), (1, .int b1), (2, .int b2), (3, .int x3), (4, .int x4)]) [0, 1, 2, 3, 4] rfl ?_
          exact hj4 ((gI H 0 7 (Int32.toNatClampNeg x4))) H h
        · have h := it_neg c17 h
          refine V_aload_n hC 0 dX9_reach_34 rfl ?_
          refine V_getR (g := 0) (k := 0) (g' := 0) (k' := 6) hC 9 6 fl_X9_26 rfl rfl rfl rfl dX9_reach_35 ?_
          refine V_iload hC 4 dX9_reach_38 rfl ?_
          obtain ⟨hi, h⟩ := gd_some h
          refine V_iald (g := 0) (k := 6) hC rfl rfl hi dX9_reach_40 ?_
          refine V_goto (tgt := 51) hC dX9_reach_41 (by decide) ?_
          refine V_lv (lv' := [(0, .ref (ad 0 0)), (1, .int b1), (2, .int b2), (3, .int x3), (4, .int x4)]) [0, 1, 2, 3, 4] rfl ?_
          exact hj4 ((gI H 0 6 (Int32.toNatClampNeg x4))) H h
def L_X9_reach_2 (b1 : Int32) (b2 : Int32) (k : Hp → Option (Unit × Hp)) : Nat → Int32 → Hp → Option (Unit × Hp)
  | 0, _, _ => none
  | n + 1, x3, H => if x3 = 0 then k H else vl ((40 * b1)) (fun (v2 : Int32) => L_X9_reach_14 b1 b2 (fun (z18 : Int32) (H19 : Hp) => L_X9_reach_2 b1 b2 k n z18 H19) FU 0 v2 H)
set_option maxRecDepth 100000 in
set_option maxHeartbeats 4000000 in
theorem sL_X9_reach_2 {p : Program} {l : Launch} {e : Env} {s : State} {m : MethodId} {args : Array Value} {below : List Frame} {meth : Method} {c : Code} {A : Nat → Prop} {D : va_G} {K4 : kQ} {ad : Nat → Nat → Nat} {nr : Nat} {b1 : Int32} {b2 : Int32} {k : Hp → Option (Unit × Hp)} {res : Unit × Hp} (hC : Cx p s m args c A s.heap D K4 7 RX9 cX9_reach) (hret : meth.sig.returnType = none ∧ meth.locks = false) (hk : ∀ (H : Hp), k H = some res → V p l e ({ frames := 0, cells := 0, slots := 0, locals := 0 }) s m args below meth c A s.heap (QU below args s A D K4 ad nr res) D K4 ad nr 7 115 [] [] H) : ∀ (n : Nat) (x3 : Int32) (H : Hp), L_X9_reach_2 b1 b2 k n x3 H = some res → V p l e ({ frames := 0, cells := 0, slots := 0, locals := 0 }) s m args below meth c A s.heap (QU below args s A D K4 ad nr res) D K4 ad nr 7 2 [(0, .ref (ad 0 0)), (1, .int b1), (2, .int b2), (3, .int x3)] [] H := by
  intro n
  induction n with
  | zero => intro x3 H h; exact nomatch (show (none : Option (Unit × Hp)) = some res from h)
  | succ n ih =>
    intro x3 H h
    rw [L_X9_reach_2] at h
    refine V_iload_n hC 3 dX9_reach_2 rfl ?_
    refine V_if_eq (tgt := 115) hC dX9_reach_3 (by decide) (fun c1 => ?_) (fun c1 => ?_)
    · have h := it_pos c1 h
      refine V_lv (lv' := []) [] rfl ?_
      exact hk H h
    · have h := it_neg c1 h
      refine V_iconst (v := 0) hC dX9_reach_6 (by decide) ?_
      refine V_istore_n (lv' := [(3, .int 0), (0, .ref (ad 0 0)), (1, .int b1), (2, .int b2)]) hC dX9_reach_7 (Nat.le_of_ble_eq_true rfl) rfl ?_
      refine V_bipush (v := 40) hC dX9_reach_8 (by decide) ?_
      refine V_iload_n hC 2 dX9_reach_10 rfl ?_
      refine V_imul hC dX9_reach_11 ?_
      refine V_vlI h (fun v2 h => ?_)
      refine V_istore (lv' := [(4, .int v2), (3, .int 0), (0, .ref (ad 0 0)), (1, .int b1), (2, .int b2)]) hC dX9_reach_12 (Nat.le_of_ble_eq_true rfl) rfl ?_
      refine V_lv (lv' := [(0, .ref (ad 0 0)), (1, .int b1), (2, .int b2), (3, .int 0), (4, .int v2)]) [2, 3, 4, 1, 0] rfl ?_
      refine sL_X9_reach_14 hC hret (fun z18 H19 h => ?_) _ 0 v2 H h
      refine V_goto (tgt := 2) hC dX9_reach_112 (by decide) ?_
      refine V_lv (lv' := [(0, .ref (ad 0 0)), (1, .int b1), (2, .int b2), (3, .int z18)]) [0, 1, 2, 3] rfl ?_
      exact ih z18 H19 h
def f_X9_reach (a1 : Int32) (a2 : Int32) (H : Hp) : Option (Unit × Hp) := L_X9_reach_2 a1 a2 (fun (H20 : Hp) => some ((), H20)) FU 1 H
set_option maxRecDepth 100000 in
set_option maxHeartbeats 4000000 in
theorem s_X9_reach {p : Program} {l : Launch} {e : Env} {s : State} {m : MethodId} {args : Array Value} {below : List Frame} {meth : Method} {c : Code} {A : Nat → Prop} {D : va_G} {K4 : kQ} {ad : Nat → Nat → Nat} {nr : Nat} {a1 : Int32} {a2 : Int32} {H : Hp} {res : Unit × Hp} (hC : Cx p s m args c A s.heap D K4 7 RX9 cX9_reach) (hret : meth.sig.returnType = none ∧ meth.locks = false) (h : f_X9_reach a1 a2 H = some res) : V p l e ({ frames := 0, cells := 0, slots := 0, locals := 0 }) s m args below meth c A s.heap (QU below args s A D K4 ad nr res) D K4 ad nr 7 0 [(0, .ref (ad 0 0)), (1, .int a1), (2, .int a2)] [] H := by
  unfold f_X9_reach at h
  refine V_iconst (v := 1) hC dX9_reach_0 (by decide) ?_
  refine V_istore_n (lv' := [(3, .int 1), (0, .ref (ad 0 0)), (1, .int a1), (2, .int a2)]) hC dX9_reach_1 (Nat.le_of_ble_eq_true rfl) rfl ?_
  refine V_lv (lv' := [(0, .ref (ad 0 0)), (1, .int a1), (2, .int a2), (3, .int 1)]) [1, 2, 3, 0] rfl ?_
  refine sL_X9_reach_2 hC hret (fun H20 h => ?_) _ 1 H h
  exact V_vret hC hret dX9_reach_115 h
theorem c_X9_reach (l : Launch) {nr : Nat} {a1 : Int32} {a2 : Int32} {H : Hp} {x : Unit} {H' : Hp} (h : f_X9_reach a1 a2 H = some (x, H')) : CU l nr yX9_reach cX9_reach 7 none 0 0 (fun ad => [.ref (ad 0 0), .int a1, .int a2]) H x H' := by
  intro D K4 ad sz
  refine Met.ofV (by decide) (Nat.le_of_ble_eq_true rfl) ?_
  intro p e s m args below meth c hC hret hsz
  subst hsz
  exact s_X9_reach hC hret h
theorem dX9_all_0 : decode cX9_all 0 = .ok (.iconst 1, 1) := by decide +kernel
theorem dX9_all_1 : decode cX9_all 1 = .ok (.istore_n 2, 1) := by decide +kernel
theorem dX9_all_2 : decode cX9_all 2 = .ok (.iconst 0, 1) := by decide +kernel
theorem dX9_all_3 : decode cX9_all 3 = .ok (.istore_n 3, 1) := by decide +kernel
theorem dX9_all_4 : decode cX9_all 4 = .ok (.iload_n 3, 1) := by decide +kernel
theorem dX9_all_5 : decode cX9_all 5 = .ok (.aload_n 0, 1) := by decide +kernel
theorem dX9_all_6 : decode cX9_all 6 = .ok (.getfield 7, 3) := by decide +kernel
theorem dX9_all_9 : decode cX9_all 9 = .ok (.iload_n 1, 1) := by decide +kernel
theorem dX9_all_10 : decode cX9_all 10 = .ok (.iaload, 1) := by decide +kernel
theorem dX9_all_11 : decode cX9_all 11 = .ok (.if_icmp .ge 28, 3) := by decide +kernel
theorem dX9_all_14 : decode cX9_all 14 = .ok (.iload_n 2, 1) := by decide +kernel
theorem dX9_all_15 : decode cX9_all 15 = .ok (.ifCond .eq 16, 3) := by decide +kernel
theorem dX9_all_18 : decode cX9_all 18 = .ok (.aload_n 0, 1) := by decide +kernel
theorem dX9_all_19 : decode cX9_all 19 = .ok (.getfield 99, 3) := by decide +kernel
theorem dX9_all_22 : decode cX9_all 22 = .ok (.iload_n 3, 1) := by decide +kernel
theorem dX9_all_23 : decode cX9_all 23 = .ok (.baload, 1) := by decide +kernel
theorem dX9_all_24 : decode cX9_all 24 = .ok (.ifCond .eq 7, 3) := by decide +kernel
theorem dX9_all_27 : decode cX9_all 27 = .ok (.iconst 1, 1) := by decide +kernel
theorem dX9_all_28 : decode cX9_all 28 = .ok (.goto 4, 3) := by decide +kernel
theorem dX9_all_31 : decode cX9_all 31 = .ok (.iconst 0, 1) := by decide +kernel
theorem dX9_all_32 : decode cX9_all 32 = .ok (.istore_n 2, 1) := by decide +kernel
theorem dX9_all_33 : decode cX9_all 33 = .ok (.iinc 3 1, 3) := by decide +kernel
theorem dX9_all_36 : decode cX9_all 36 = .ok (.goto (-32), 3) := by decide +kernel
theorem dX9_all_39 : decode cX9_all 39 = .ok (.iload_n 2, 1) := by decide +kernel
theorem dX9_all_40 : decode cX9_all 40 = .ok (.ireturn, 1) := by decide +kernel
def L_X9_all_4 (b1 : Int32) (k : Int32 → Hp → Option (Int32 × Hp)) : Nat → Int32 → Int32 → Hp → Option (Int32 × Hp)
  | 0, _, _, _ => none
  | n + 1, x2, x3, H => gd b1 8 (if (gI H 0 1 (Int32.toNatClampNeg b1)) ≤ x3 then k x2 H else if x2 = 0 then vl (x3 + (1 : Int32)) (fun (v3 : Int32) => L_X9_all_4 b1 k n 0 v3 H) else gd x3 21 (if (gI H 0 35 (Int32.toNatClampNeg x3)) = 0 then vl (x3 + (1 : Int32)) (fun (v5 : Int32) => L_X9_all_4 b1 k n 0 v5 H) else vl (x3 + (1 : Int32)) (fun (v6 : Int32) => L_X9_all_4 b1 k n 1 v6 H)))
set_option maxRecDepth 100000 in
set_option maxHeartbeats 4000000 in
theorem sL_X9_all_4 {p : Program} {l : Launch} {e : Env} {s : State} {m : MethodId} {args : Array Value} {below : List Frame} {meth : Method} {c : Code} {A : Nat → Prop} {D : va_G} {K4 : kQ} {ad : Nat → Nat → Nat} {nr : Nat} {b1 : Int32} {k : Int32 → Hp → Option (Int32 × Hp)} {res : Int32 × Hp} (hC : Cx p s m args c A s.heap D K4 4 RX9 cX9_all) (hret : meth.sig.returnType = (some .boolean) ∧ meth.locks = false) (hk : ∀ (z2 : Int32) (H : Hp), k z2 H = some res → V p l e ({ frames := 0, cells := 0, slots := 0, locals := 0 }) s m args below meth c A s.heap (QI below args s A D K4 ad nr res) D K4 ad nr 4 39 [(2, .int z2)] [] H) : ∀ (n : Nat) (x2 : Int32) (x3 : Int32) (H : Hp), L_X9_all_4 b1 k n x2 x3 H = some res → V p l e ({ frames := 0, cells := 0, slots := 0, locals := 0 }) s m args below meth c A s.heap (QI below args s A D K4 ad nr res) D K4 ad nr 4 4 [(0, .ref (ad 0 0)), (1, .int b1), (2, .int x2), (3, .int x3)] [] H := by
  intro n
  induction n with
  | zero => intro x2 x3 H h; exact nomatch (show (none : Option (Int32 × Hp)) = some res from h)
  | succ n ih =>
    intro x2 x3 H h
    rw [L_X9_all_4] at h
    refine V_iload_n hC 3 dX9_all_4 rfl ?_
    refine V_aload_n hC 0 dX9_all_5 rfl ?_
    refine V_getR (g := 0) (k := 0) (g' := 0) (k' := 1) hC 9 1 fl_X9_7 rfl rfl rfl rfl dX9_all_6 ?_
    refine V_iload_n hC 1 dX9_all_9 rfl ?_
    obtain ⟨hi, h⟩ := gd_some h
    refine V_iald (g := 0) (k := 1) hC rfl rfl hi dX9_all_10 ?_
    refine V_icmp_ge (tgt := 39) hC dX9_all_11 (by decide) (fun c1 => ?_) (fun c1 => ?_)
    · have h := it_pos c1 h
      refine V_lv (lv' := [(2, .int x2)]) [2] rfl ?_
      exact hk x2 H h
    · have h := it_neg c1 h
      refine V_iload_n hC 2 dX9_all_14 rfl ?_
      refine V_if_eq (tgt := 31) hC dX9_all_15 (by decide) (fun c2 => ?_) (fun c2 => ?_)
      · have h := it_pos c2 h
        refine V_iconst (v := 0) hC dX9_all_31 (by decide) ?_
        refine V_istore_n (lv' := [(2, .int 0), (0, .ref (ad 0 0)), (1, .int b1), (3, .int x3)]) hC dX9_all_32 (Nat.le_of_ble_eq_true rfl) rfl ?_
        refine V_vi h (fun v3 hvv3 h => ?_)
        refine V_iinc (v := v3) (lv' := [(3, .int v3), (2, .int 0), (0, .ref (ad 0 0)), (1, .int b1)]) hC 3 dX9_all_33 rfl hvv3.symm (Nat.le_of_ble_eq_true rfl) rfl ?_
        refine V_goto (tgt := 4) hC dX9_all_36 (by decide) ?_
        refine V_lv (lv' := [(0, .ref (ad 0 0)), (1, .int b1), (2, .int 0), (3, .int v3)]) [2, 3, 1, 0] rfl ?_
        exact ih 0 v3 H h
      · have h := it_neg c2 h
        refine V_aload_n hC 0 dX9_all_18 rfl ?_
        refine V_getR (g := 0) (k := 0) (g' := 0) (k' := 35) hC 9 35 fl_X9_99 rfl rfl rfl rfl dX9_all_19 ?_
        refine V_iload_n hC 3 dX9_all_22 rfl ?_
        obtain ⟨hi, h⟩ := gd_some h
        refine V_zald (g := 0) (k := 35) hC rfl rfl hi dX9_all_23 ?_
        refine V_if_eq (tgt := 31) hC dX9_all_24 (by decide) (fun c4 => ?_) (fun c4 => ?_)
        · have h := it_pos c4 h
          refine V_iconst (v := 0) hC dX9_all_31 (by decide) ?_
          refine V_istore_n (lv' := [(2, .int 0), (0, .ref (ad 0 0)), (1, .int b1), (3, .int x3)]) hC dX9_all_32 (Nat.le_of_ble_eq_true rfl) rfl ?_
          refine V_vi h (fun v5 hvv5 h => ?_)
          refine V_iinc (v := v5) (lv' := [(3, .int v5), (2, .int 0), (0, .ref (ad 0 0)), (1, .int b1)]) hC 3 dX9_all_33 rfl hvv5.symm (Nat.le_of_ble_eq_true rfl) rfl ?_
          refine V_goto (tgt := 4) hC dX9_all_36 (by decide) ?_
          refine V_lv (lv' := [(0, .ref (ad 0 0)), (1, .int b1), (2, .int 0), (3, .int v5)]) [2, 3, 1, 0] rfl ?_
          exact ih 0 v5 H h
        · have h := it_neg c4 h
          refine V_iconst (v := 1) hC dX9_all_27 (by decide) ?_
          refine V_goto (tgt := 32) hC dX9_all_28 (by decide) ?_
          refine V_istore_n (lv' := [(2, .int 1), (0, .ref (ad 0 0)), (1, .int b1), (3, .int x3)]) hC dX9_all_32 (Nat.le_of_ble_eq_true rfl) rfl ?_
          refine V_vi h (fun v6 hvv6 h => ?_)
          refine V_iinc (v := v6) (lv' := [(3, .int v6), (2, .int 1), (0, .ref (ad 0 0)), (1, .int b1)]) hC 3 dX9_all_33 rfl hvv6.symm (Nat.le_of_ble_eq_true rfl) rfl ?_
          refine V_goto (tgt := 4) hC dX9_all_36 (by decide) ?_
          refine V_lv (lv' := [(0, .ref (ad 0 0)), (1, .int b1), (2, .int 1), (3, .int v6)]) [2, 3, 1, 0] rfl ?_
          exact ih 1 v6 H h
def f_X9_all (a1 : Int32) (H : Hp) : Option (Int32 × Hp) := L_X9_all_4 a1 (fun (z7 : Int32) (H8 : Hp) => gb (decide (z7 = (0 : Int32) ∨ z7 = 1)) (some (z7, H8))) FU 1 0 H
set_option maxRecDepth 100000 in
set_option maxHeartbeats 4000000 in
theorem s_X9_all {p : Program} {l : Launch} {e : Env} {s : State} {m : MethodId} {args : Array Value} {below : List Frame} {meth : Method} {c : Code} {A : Nat → Prop} {D : va_G} {K4 : kQ} {ad : Nat → Nat → Nat} {nr : Nat} {a1 : Int32} {H : Hp} {res : Int32 × Hp} (hC : Cx p s m args c A s.heap D K4 4 RX9 cX9_all) (hret : meth.sig.returnType = (some .boolean) ∧ meth.locks = false) (h : f_X9_all a1 H = some res) : V p l e ({ frames := 0, cells := 0, slots := 0, locals := 0 }) s m args below meth c A s.heap (QI below args s A D K4 ad nr res) D K4 ad nr 4 0 [(0, .ref (ad 0 0)), (1, .int a1)] [] H := by
  unfold f_X9_all at h
  refine V_iconst (v := 1) hC dX9_all_0 (by decide) ?_
  refine V_istore_n (lv' := [(2, .int 1), (0, .ref (ad 0 0)), (1, .int a1)]) hC dX9_all_1 (Nat.le_of_ble_eq_true rfl) rfl ?_
  refine V_iconst (v := 0) hC dX9_all_2 (by decide) ?_
  refine V_istore_n (lv' := [(3, .int 0), (2, .int 1), (0, .ref (ad 0 0)), (1, .int a1)]) hC dX9_all_3 (Nat.le_of_ble_eq_true rfl) rfl ?_
  refine V_lv (lv' := [(0, .ref (ad 0 0)), (1, .int a1), (2, .int 1), (3, .int 0)]) [2, 3, 1, 0] rfl ?_
  refine sL_X9_all_4 hC hret (fun z7 H8 h => ?_) _ 1 0 H h
  refine V_iload_n hC 0 dX9_all_39 rfl ?_
  obtain ⟨hz, h⟩ := gb_some h
  exact V_zret hC hret (nar01 (of_decide_eq_true hz)) dX9_all_40 h
theorem c_X9_all (l : Launch) {nr : Nat} {a1 : Int32} {H : Hp} {x : Int32} {H' : Hp} (h : f_X9_all a1 H = some (x, H')) : CI l nr yX9_all cX9_all 4 (some .boolean) 0 0 (fun ad => [.ref (ad 0 0), .int a1]) H x H' := by
  intro D K4 ad sz
  refine Met.ofV (by decide) (Nat.le_of_ble_eq_true rfl) ?_
  intro p e s m args below meth c hC hret hsz
  subst hsz
  exact s_X9_all hC hret h
theorem dX9_fails_0 : decode cX9_fails 0 = .ok (.aload_n 0, 1) := by decide +kernel
theorem dX9_fails_1 : decode cX9_fails 1 = .ok (.iload_n 1, 1) := by decide +kernel
theorem dX9_fails_2 : decode cX9_fails 2 = .ok (.putfield 153, 3) := by decide +kernel
theorem dX9_fails_5 : decode cX9_fails 5 = .ok (.lconst 0, 1) := by decide +kernel
theorem dX9_fails_6 : decode cX9_fails 6 = .ok (.lreturn, 1) := by decide +kernel
def f_X9_fails (a1 : Int32) (H : Hp) : Option (Int64 × Hp) := hl (sI H 0 0 34 a1) (fun (H1 : Hp) => some (0, H1))
set_option maxRecDepth 100000 in
set_option maxHeartbeats 4000000 in
theorem s_X9_fails {p : Program} {l : Launch} {e : Env} {s : State} {m : MethodId} {args : Array Value} {below : List Frame} {meth : Method} {c : Code} {A : Nat → Prop} {D : va_G} {K4 : kQ} {ad : Nat → Nat → Nat} {nr : Nat} {a1 : Int32} {H : Hp} {res : Int64 × Hp} (hC : Cx p s m args c A s.heap D K4 2 RX9 cX9_fails) (hret : meth.sig.returnType = (some .long) ∧ meth.locks = false) (h : f_X9_fails a1 H = some res) : V p l e ({ frames := 0, cells := 0, slots := 0, locals := 0 }) s m args below meth c A s.heap (QJ below args s A D K4 ad nr res) D K4 ad nr 2 0 [(0, .ref (ad 0 0)), (1, .int a1)] [] H := by
  unfold f_X9_fails at h
  refine V_aload_n hC 0 dX9_fails_0 rfl ?_
  refine V_iload_n hC 1 dX9_fails_1 rfl ?_
  refine V_putI (g := 0) (k := 0) hC 9 34 .int fw_X9_153 rfl rfl rfl rfl rfl dX9_fails_2 ?_
  refine V_hl h (fun H1 h => ?_)
  refine V_lconst (v := 0) hC dX9_fails_5 (by decide) ?_
  exact V_lret hC hret dX9_fails_6 h
theorem c_X9_fails (l : Launch) {nr : Nat} {a1 : Int32} {H : Hp} {x : Int64} {H' : Hp} (h : f_X9_fails a1 H = some (x, H')) : CJ l nr yX9_fails cX9_fails 2 (some .long) 0 0 (fun ad => [.ref (ad 0 0), .int a1]) H x H' := by
  intro D K4 ad sz
  refine Met.ofV (by decide) (Nat.le_of_ble_eq_true rfl) ?_
  intro p e s m args below meth c hC hret hsz
  subst hsz
  exact s_X9_fails hC hret h
