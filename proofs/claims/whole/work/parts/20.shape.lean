theorem dX3_hasBlock_0 : decode cX3_hasBlock 0 = .ok (.iload_n 1, 1) := by decide +kernel
theorem dX3_hasBlock_1 : decode cX3_hasBlock 1 = .ok (.ifCond .lt 15, 3) := by decide +kernel
theorem dX3_hasBlock_4 : decode cX3_hasBlock 4 = .ok (.iload_n 1, 1) := by decide +kernel
theorem dX3_hasBlock_5 : decode cX3_hasBlock 5 = .ok (.aload_n 0, 1) := by decide +kernel
theorem dX3_hasBlock_6 : decode cX3_hasBlock 6 = .ok (.getfield 43, 3) := by decide +kernel
theorem dX3_hasBlock_9 : decode cX3_hasBlock 9 = .ok (.if_icmp .ge 7, 3) := by decide +kernel
theorem dX3_hasBlock_12 : decode cX3_hasBlock 12 = .ok (.iconst 1, 1) := by decide +kernel
theorem dX3_hasBlock_13 : decode cX3_hasBlock 13 = .ok (.goto 4, 3) := by decide +kernel
theorem dX3_hasBlock_16 : decode cX3_hasBlock 16 = .ok (.iconst 0, 1) := by decide +kernel
theorem dX3_hasBlock_17 : decode cX3_hasBlock 17 = .ok (.ireturn, 1) := by decide +kernel
def f_X3_hasBlock (r : Nat) (a1 : Int32) (H : Hp) : Option (Int32 × Hp) := if a1 < 0 then some (0, H) else if (gI H (r + 2) 1 10) ≤ a1 then some (0, H) else some (1, H)
set_option maxRecDepth 100000 in
set_option maxHeartbeats 4000000 in
theorem s_X3_hasBlock {p : Program} {l : Launch} {e : Env} {s : State} {m : MethodId} {args : Array Value} {below : List Frame} {meth : Method} {c : Code} {A : Nat → Prop} {D : va_G} {K4 : kQ} {ad : Nat → Nat → Nat} {nr : Nat} {r : Nat} {a1 : Int32} {H : Hp} {res : Int32 × Hp} (hC : Cx p s m args c A s.heap D K4 2 RX3 cX3_hasBlock) (hret : meth.sig.returnType = (some .boolean) ∧ meth.locks = false) (hr_r : r < nr) (h : f_X3_hasBlock r a1 H = some res) : V p l e ({ frames := 0, cells := 0, slots := 0, locals := 0 }) s m args below meth c A s.heap (QI below args s A D K4 ad nr res) D K4 ad nr 2 0 [(0, .ref (ad (r + 2) 1)), (1, .int a1)] [] H := by
  unfold f_X3_hasBlock at h
  refine V_iload_n hC 1 dX3_hasBlock_0 rfl ?_
  refine V_if_lt (tgt := 16) hC dX3_hasBlock_1 (by decide) (fun c1 => ?_) (fun c1 => ?_)
  · have h := it_pos c1 h
    refine V_iconst (v := 0) hC dX3_hasBlock_16 (by decide) ?_
    exact V_zret hC hret (by decide) dX3_hasBlock_17 h
  · have h := it_neg c1 h
    refine V_iload_n hC 1 dX3_hasBlock_4 rfl ?_
    refine V_aload_n hC 0 dX3_hasBlock_5 rfl ?_
    refine V_getI (g := (r + 2)) (k := 1) hC 3 10 fl_X3_43 (okR hr_r rfl) rfl rfl dX3_hasBlock_6 ?_
    refine V_icmp_ge (tgt := 16) hC dX3_hasBlock_9 (by decide) (fun c2 => ?_) (fun c2 => ?_)
    · have h := it_pos c2 h
      refine V_iconst (v := 0) hC dX3_hasBlock_16 (by decide) ?_
      exact V_zret hC hret (by decide) dX3_hasBlock_17 h
    · have h := it_neg c2 h
      refine V_iconst (v := 1) hC dX3_hasBlock_12 (by decide) ?_
      refine V_goto (tgt := 17) hC dX3_hasBlock_13 (by decide) ?_
      exact V_zret hC hret (by decide) dX3_hasBlock_17 h
theorem c_X3_hasBlock (l : Launch) {nr : Nat} {r : Nat} (hr_r : r < nr) {a1 : Int32} {H : Hp} {x : Int32} {H' : Hp} (h : f_X3_hasBlock r a1 H = some (x, H')) : CI l nr yX3_hasBlock cX3_hasBlock 2 (some .boolean) 0 0 (fun ad => [.ref (ad (r + 2) 1), .int a1]) H x H' := by
  intro D K4 ad sz
  refine Met.ofV (by decide) (Nat.le_of_ble_eq_true rfl) ?_
  intro p e s m args below meth c hC hret hsz
  subst hsz
  exact s_X3_hasBlock hC hret hr_r h
theorem dX3_hasEdge_0 : decode cX3_hasEdge 0 = .ok (.iload_n 1, 1) := by decide +kernel
theorem dX3_hasEdge_1 : decode cX3_hasEdge 1 = .ok (.ifCond .lt 15, 3) := by decide +kernel
theorem dX3_hasEdge_4 : decode cX3_hasEdge 4 = .ok (.iload_n 1, 1) := by decide +kernel
theorem dX3_hasEdge_5 : decode cX3_hasEdge 5 = .ok (.aload_n 0, 1) := by decide +kernel
theorem dX3_hasEdge_6 : decode cX3_hasEdge 6 = .ok (.getfield 47, 3) := by decide +kernel
theorem dX3_hasEdge_9 : decode cX3_hasEdge 9 = .ok (.if_icmp .ge 7, 3) := by decide +kernel
theorem dX3_hasEdge_12 : decode cX3_hasEdge 12 = .ok (.iconst 1, 1) := by decide +kernel
theorem dX3_hasEdge_13 : decode cX3_hasEdge 13 = .ok (.goto 4, 3) := by decide +kernel
theorem dX3_hasEdge_16 : decode cX3_hasEdge 16 = .ok (.iconst 0, 1) := by decide +kernel
theorem dX3_hasEdge_17 : decode cX3_hasEdge 17 = .ok (.ireturn, 1) := by decide +kernel
def f_X3_hasEdge (r : Nat) (a1 : Int32) (H : Hp) : Option (Int32 × Hp) := if a1 < 0 then some (0, H) else if (gI H (r + 2) 1 11) ≤ a1 then some (0, H) else some (1, H)
set_option maxRecDepth 100000 in
set_option maxHeartbeats 4000000 in
theorem s_X3_hasEdge {p : Program} {l : Launch} {e : Env} {s : State} {m : MethodId} {args : Array Value} {below : List Frame} {meth : Method} {c : Code} {A : Nat → Prop} {D : va_G} {K4 : kQ} {ad : Nat → Nat → Nat} {nr : Nat} {r : Nat} {a1 : Int32} {H : Hp} {res : Int32 × Hp} (hC : Cx p s m args c A s.heap D K4 2 RX3 cX3_hasEdge) (hret : meth.sig.returnType = (some .boolean) ∧ meth.locks = false) (hr_r : r < nr) (h : f_X3_hasEdge r a1 H = some res) : V p l e ({ frames := 0, cells := 0, slots := 0, locals := 0 }) s m args below meth c A s.heap (QI below args s A D K4 ad nr res) D K4 ad nr 2 0 [(0, .ref (ad (r + 2) 1)), (1, .int a1)] [] H := by
  unfold f_X3_hasEdge at h
  refine V_iload_n hC 1 dX3_hasEdge_0 rfl ?_
  refine V_if_lt (tgt := 16) hC dX3_hasEdge_1 (by decide) (fun c1 => ?_) (fun c1 => ?_)
  · have h := it_pos c1 h
    refine V_iconst (v := 0) hC dX3_hasEdge_16 (by decide) ?_
    exact V_zret hC hret (by decide) dX3_hasEdge_17 h
  · have h := it_neg c1 h
    refine V_iload_n hC 1 dX3_hasEdge_4 rfl ?_
    refine V_aload_n hC 0 dX3_hasEdge_5 rfl ?_
    refine V_getI (g := (r + 2)) (k := 1) hC 3 11 fl_X3_47 (okR hr_r rfl) rfl rfl dX3_hasEdge_6 ?_
    refine V_icmp_ge (tgt := 16) hC dX3_hasEdge_9 (by decide) (fun c2 => ?_) (fun c2 => ?_)
    · have h := it_pos c2 h
      refine V_iconst (v := 0) hC dX3_hasEdge_16 (by decide) ?_
      exact V_zret hC hret (by decide) dX3_hasEdge_17 h
    · have h := it_neg c2 h
      refine V_iconst (v := 1) hC dX3_hasEdge_12 (by decide) ?_
      refine V_goto (tgt := 17) hC dX3_hasEdge_13 (by decide) ?_
      exact V_zret hC hret (by decide) dX3_hasEdge_17 h
theorem c_X3_hasEdge (l : Launch) {nr : Nat} {r : Nat} (hr_r : r < nr) {a1 : Int32} {H : Hp} {x : Int32} {H' : Hp} (h : f_X3_hasEdge r a1 H = some (x, H')) : CI l nr yX3_hasEdge cX3_hasEdge 2 (some .boolean) 0 0 (fun ad => [.ref (ad (r + 2) 1), .int a1]) H x H' := by
  intro D K4 ad sz
  refine Met.ofV (by decide) (Nat.le_of_ble_eq_true rfl) ?_
  intro p e s m args below meth c hC hret hsz
  subst hsz
  exact s_X3_hasEdge hC hret hr_r h
theorem dX3_endsIn_0 : decode cX3_endsIn 0 = .ok (.aload_n 0, 1) := by decide +kernel
theorem dX3_endsIn_1 : decode cX3_endsIn 1 = .ok (.getfield 9, 3) := by decide +kernel
theorem dX3_endsIn_4 : decode cX3_endsIn 4 = .ok (.iload_n 1, 1) := by decide +kernel
theorem dX3_endsIn_5 : decode cX3_endsIn 5 = .ok (.iaload, 1) := by decide +kernel
theorem dX3_endsIn_6 : decode cX3_endsIn 6 = .ok (.iconst 3, 1) := by decide +kernel
theorem dX3_endsIn_7 : decode cX3_endsIn 7 = .ok (.if_icmp .eq 13, 3) := by decide +kernel
theorem dX3_endsIn_10 : decode cX3_endsIn 10 = .ok (.aload_n 0, 1) := by decide +kernel
theorem dX3_endsIn_11 : decode cX3_endsIn 11 = .ok (.getfield 9, 3) := by decide +kernel
theorem dX3_endsIn_14 : decode cX3_endsIn 14 = .ok (.iload_n 1, 1) := by decide +kernel
theorem dX3_endsIn_15 : decode cX3_endsIn 15 = .ok (.iaload, 1) := by decide +kernel
theorem dX3_endsIn_16 : decode cX3_endsIn 16 = .ok (.iconst 4, 1) := by decide +kernel
theorem dX3_endsIn_17 : decode cX3_endsIn 17 = .ok (.if_icmp .ne 7, 3) := by decide +kernel
theorem dX3_endsIn_20 : decode cX3_endsIn 20 = .ok (.iconst 1, 1) := by decide +kernel
theorem dX3_endsIn_21 : decode cX3_endsIn 21 = .ok (.goto 4, 3) := by decide +kernel
theorem dX3_endsIn_24 : decode cX3_endsIn 24 = .ok (.iconst 0, 1) := by decide +kernel
theorem dX3_endsIn_25 : decode cX3_endsIn 25 = .ok (.ireturn, 1) := by decide +kernel
def f_X3_endsIn (r : Nat) (a1 : Int32) (H : Hp) : Option (Int32 × Hp) := gd a1 20 (if (gI H (r + 2) 8 (Int32.toNatClampNeg a1)) = 3 then some (1, H) else gd a1 20 (if (gI H (r + 2) 8 (Int32.toNatClampNeg a1)) = 4 then some (1, H) else some (0, H)))
set_option maxRecDepth 100000 in
set_option maxHeartbeats 4000000 in
theorem s_X3_endsIn {p : Program} {l : Launch} {e : Env} {s : State} {m : MethodId} {args : Array Value} {below : List Frame} {meth : Method} {c : Code} {A : Nat → Prop} {D : va_G} {K4 : kQ} {ad : Nat → Nat → Nat} {nr : Nat} {r : Nat} {a1 : Int32} {H : Hp} {res : Int32 × Hp} (hC : Cx p s m args c A s.heap D K4 2 RX3 cX3_endsIn) (hret : meth.sig.returnType = (some .boolean) ∧ meth.locks = false) (hr_r : r < nr) (h : f_X3_endsIn r a1 H = some res) : V p l e ({ frames := 0, cells := 0, slots := 0, locals := 0 }) s m args below meth c A s.heap (QI below args s A D K4 ad nr res) D K4 ad nr 2 0 [(0, .ref (ad (r + 2) 1)), (1, .int a1)] [] H := by
  unfold f_X3_endsIn at h
  refine V_aload_n hC 0 dX3_endsIn_0 rfl ?_
  refine V_getR (g := (r + 2)) (k := 1) (g' := (r + 2)) (k' := 8) hC 3 0 fl_X3_9 (okR hr_r rfl) rfl rfl rfl dX3_endsIn_1 ?_
  refine V_iload_n hC 1 dX3_endsIn_4 rfl ?_
  obtain ⟨hi, h⟩ := gd_some h
  refine V_iald (g := (r + 2)) (k := 8) hC (okR hr_r rfl) rfl hi dX3_endsIn_5 ?_
  refine V_iconst (v := 3) hC dX3_endsIn_6 (by decide) ?_
  refine V_icmp_eq (tgt := 20) hC dX3_endsIn_7 (by decide) (fun c1 => ?_) (fun c1 => ?_)
  · have h := it_pos c1 h
    refine V_iconst (v := 1) hC dX3_endsIn_20 (by decide) ?_
    refine V_goto (tgt := 25) hC dX3_endsIn_21 (by decide) ?_
    exact V_zret hC hret (by decide) dX3_endsIn_25 h
  · have h := it_neg c1 h
    refine V_aload_n hC 0 dX3_endsIn_10 rfl ?_
    refine V_getR (g := (r + 2)) (k := 1) (g' := (r + 2)) (k' := 8) hC 3 0 fl_X3_9 (okR hr_r rfl) rfl rfl rfl dX3_endsIn_11 ?_
    refine V_iload_n hC 1 dX3_endsIn_14 rfl ?_
    obtain ⟨hi, h⟩ := gd_some h
    refine V_iald (g := (r + 2)) (k := 8) hC (okR hr_r rfl) rfl hi dX3_endsIn_15 ?_
    refine V_iconst (v := 4) hC dX3_endsIn_16 (by decide) ?_
    refine V_icmp_ne (tgt := 24) hC dX3_endsIn_17 (by decide) (fun c2 => ?_) (fun c2 => ?_)
    · have h := it_neg c2 h
      refine V_iconst (v := 0) hC dX3_endsIn_24 (by decide) ?_
      exact V_zret hC hret (by decide) dX3_endsIn_25 h
    · have h := it_pos c2 h
      refine V_iconst (v := 1) hC dX3_endsIn_20 (by decide) ?_
      refine V_goto (tgt := 25) hC dX3_endsIn_21 (by decide) ?_
      exact V_zret hC hret (by decide) dX3_endsIn_25 h
theorem c_X3_endsIn (l : Launch) {nr : Nat} {r : Nat} (hr_r : r < nr) {a1 : Int32} {H : Hp} {x : Int32} {H' : Hp} (h : f_X3_endsIn r a1 H = some (x, H')) : CI l nr yX3_endsIn cX3_endsIn 2 (some .boolean) 0 0 (fun ad => [.ref (ad (r + 2) 1), .int a1]) H x H' := by
  intro D K4 ad sz
  refine Met.ofV (by decide) (Nat.le_of_ble_eq_true rfl) ?_
  intro p e s m args below meth c hC hret hsz
  subst hsz
  exact s_X3_endsIn hC hret hr_r h
theorem dX3_addBlock_0 : decode cX3_addBlock 0 = .ok (.aload_n 0, 1) := by decide +kernel
theorem dX3_addBlock_1 : decode cX3_addBlock 1 = .ok (.getfield 43, 3) := by decide +kernel
theorem dX3_addBlock_4 : decode cX3_addBlock 4 = .ok (.bipush 20, 2) := by decide +kernel
theorem dX3_addBlock_6 : decode cX3_addBlock 6 = .ok (.if_icmp .lt 5, 3) := by decide +kernel
theorem dX3_addBlock_9 : decode cX3_addBlock 9 = .ok (.iconst (-1), 1) := by decide +kernel
theorem dX3_addBlock_10 : decode cX3_addBlock 10 = .ok (.ireturn, 1) := by decide +kernel
theorem dX3_addBlock_11 : decode cX3_addBlock 11 = .ok (.aload_n 0, 1) := by decide +kernel
theorem dX3_addBlock_12 : decode cX3_addBlock 12 = .ok (.getfield 9, 3) := by decide +kernel
theorem dX3_addBlock_15 : decode cX3_addBlock 15 = .ok (.aload_n 0, 1) := by decide +kernel
theorem dX3_addBlock_16 : decode cX3_addBlock 16 = .ok (.getfield 43, 3) := by decide +kernel
theorem dX3_addBlock_19 : decode cX3_addBlock 19 = .ok (.iload_n 1, 1) := by decide +kernel
theorem dX3_addBlock_20 : decode cX3_addBlock 20 = .ok (.iastore, 1) := by decide +kernel
theorem dX3_addBlock_21 : decode cX3_addBlock 21 = .ok (.aload_n 0, 1) := by decide +kernel
theorem dX3_addBlock_22 : decode cX3_addBlock 22 = .ok (.getfield 15, 3) := by decide +kernel
theorem dX3_addBlock_25 : decode cX3_addBlock 25 = .ok (.aload_n 0, 1) := by decide +kernel
theorem dX3_addBlock_26 : decode cX3_addBlock 26 = .ok (.getfield 43, 3) := by decide +kernel
theorem dX3_addBlock_29 : decode cX3_addBlock 29 = .ok (.iload_n 2, 1) := by decide +kernel
theorem dX3_addBlock_30 : decode cX3_addBlock 30 = .ok (.iastore, 1) := by decide +kernel
theorem dX3_addBlock_31 : decode cX3_addBlock 31 = .ok (.aload_n 0, 1) := by decide +kernel
theorem dX3_addBlock_32 : decode cX3_addBlock 32 = .ok (.dup, 1) := by decide +kernel
theorem dX3_addBlock_33 : decode cX3_addBlock 33 = .ok (.getfield 43, 3) := by decide +kernel
theorem dX3_addBlock_36 : decode cX3_addBlock 36 = .ok (.iconst 1, 1) := by decide +kernel
theorem dX3_addBlock_37 : decode cX3_addBlock 37 = .ok (.iadd, 1) := by decide +kernel
theorem dX3_addBlock_38 : decode cX3_addBlock 38 = .ok (.putfield 43, 3) := by decide +kernel
theorem dX3_addBlock_41 : decode cX3_addBlock 41 = .ok (.aload_n 0, 1) := by decide +kernel
theorem dX3_addBlock_42 : decode cX3_addBlock 42 = .ok (.getfield 43, 3) := by decide +kernel
theorem dX3_addBlock_45 : decode cX3_addBlock 45 = .ok (.iconst 1, 1) := by decide +kernel
theorem dX3_addBlock_46 : decode cX3_addBlock 46 = .ok (.isub, 1) := by decide +kernel
theorem dX3_addBlock_47 : decode cX3_addBlock 47 = .ok (.ireturn, 1) := by decide +kernel
def f_X3_addBlock (r : Nat) (a1 : Int32) (a2 : Int32) (H : Hp) : Option (Int32 × Hp) := if (gI H (r + 2) 1 10) < 20 then gd (gI H (r + 2) 1 10) 20 (hl (sI H (r + 2) 8 (Int32.toNatClampNeg (gI H (r + 2) 1 10)) a1) (fun (H2 : Hp) => gd (gI H2 (r + 2) 1 10) 20 (hl (sI H2 (r + 2) 9 (Int32.toNatClampNeg (gI H2 (r + 2) 1 10)) a2) (fun (H3 : Hp) => hl (sI H3 (r + 2) 1 10 ((gI H3 (r + 2) 1 10) + 1)) (fun (H4 : Hp) => some (((gI H4 (r + 2) 1 10) - 1), H4)))))) else some ((-1), H)
set_option maxRecDepth 100000 in
set_option maxHeartbeats 4000000 in
theorem s_X3_addBlock {p : Program} {l : Launch} {e : Env} {s : State} {m : MethodId} {args : Array Value} {below : List Frame} {meth : Method} {c : Code} {A : Nat → Prop} {D : va_G} {K4 : kQ} {ad : Nat → Nat → Nat} {nr : Nat} {r : Nat} {a1 : Int32} {a2 : Int32} {H : Hp} {res : Int32 × Hp} (hC : Cx p s m args c A s.heap D K4 3 RX3 cX3_addBlock) (hret : meth.sig.returnType = (some .int) ∧ meth.locks = false) (hr_r : r < nr) (h : f_X3_addBlock r a1 a2 H = some res) : V p l e ({ frames := 0, cells := 0, slots := 0, locals := 0 }) s m args below meth c A s.heap (QI below args s A D K4 ad nr res) D K4 ad nr 3 0 [(0, .ref (ad (r + 2) 1)), (1, .int a1), (2, .int a2)] [] H := by
  unfold f_X3_addBlock at h
  refine V_aload_n hC 0 dX3_addBlock_0 rfl ?_
  refine V_getI (g := (r + 2)) (k := 1) hC 3 10 fl_X3_43 (okR hr_r rfl) rfl rfl dX3_addBlock_1 ?_
  refine V_bipush (v := 20) hC dX3_addBlock_4 (by decide) ?_
  refine V_icmp_lt (tgt := 11) hC dX3_addBlock_6 (by decide) (fun c1 => ?_) (fun c1 => ?_)
  · have h := it_pos c1 h
    refine V_aload_n hC 0 dX3_addBlock_11 rfl ?_
    refine V_getR (g := (r + 2)) (k := 1) (g' := (r + 2)) (k' := 8) hC 3 0 fl_X3_9 (okR hr_r rfl) rfl rfl rfl dX3_addBlock_12 ?_
    refine V_aload_n hC 0 dX3_addBlock_15 rfl ?_
    refine V_getI (g := (r + 2)) (k := 1) hC 3 10 fl_X3_43 (okR hr_r rfl) rfl rfl dX3_addBlock_16 ?_
    refine V_iload_n hC 1 dX3_addBlock_19 rfl ?_
    obtain ⟨hi, h⟩ := gd_some h
    refine V_iast (g := (r + 2)) (k := 8) hC (okR hr_r rfl) rfl hi dX3_addBlock_20 ?_
    refine V_hl h (fun H2 h => ?_)
    refine V_aload_n hC 0 dX3_addBlock_21 rfl ?_
    refine V_getR (g := (r + 2)) (k := 1) (g' := (r + 2)) (k' := 9) hC 3 1 fl_X3_15 (okR hr_r rfl) rfl rfl rfl dX3_addBlock_22 ?_
    refine V_aload_n hC 0 dX3_addBlock_25 rfl ?_
    refine V_getI (g := (r + 2)) (k := 1) hC 3 10 fl_X3_43 (okR hr_r rfl) rfl rfl dX3_addBlock_26 ?_
    refine V_iload_n hC 2 dX3_addBlock_29 rfl ?_
    obtain ⟨hi, h⟩ := gd_some h
    refine V_iast (g := (r + 2)) (k := 9) hC (okR hr_r rfl) rfl hi dX3_addBlock_30 ?_
    refine V_hl h (fun H3 h => ?_)
    refine V_aload_n hC 0 dX3_addBlock_31 rfl ?_
    refine V_dup hC dX3_addBlock_32 rfl ?_
    refine V_getI (g := (r + 2)) (k := 1) hC 3 10 fl_X3_43 (okR hr_r rfl) rfl rfl dX3_addBlock_33 ?_
    refine V_iconst (v := 1) hC dX3_addBlock_36 (by decide) ?_
    refine V_iadd hC dX3_addBlock_37 ?_
    refine V_putI (g := (r + 2)) (k := 1) hC 3 10 .int fw_X3_43 (okR hr_r rfl) rfl rfl rfl rfl dX3_addBlock_38 ?_
    refine V_hl h (fun H4 h => ?_)
    refine V_aload_n hC 0 dX3_addBlock_41 rfl ?_
    refine V_getI (g := (r + 2)) (k := 1) hC 3 10 fl_X3_43 (okR hr_r rfl) rfl rfl dX3_addBlock_42 ?_
    refine V_iconst (v := 1) hC dX3_addBlock_45 (by decide) ?_
    refine V_isub hC dX3_addBlock_46 ?_
    exact V_iret hC hret dX3_addBlock_47 h
  · have h := it_neg c1 h
    refine V_iconst (v := -1) hC dX3_addBlock_9 (by decide) ?_
    exact V_iret hC hret dX3_addBlock_10 h
theorem c_X3_addBlock (l : Launch) {nr : Nat} {r : Nat} (hr_r : r < nr) {a1 : Int32} {a2 : Int32} {H : Hp} {x : Int32} {H' : Hp} (h : f_X3_addBlock r a1 a2 H = some (x, H')) : CI l nr yX3_addBlock cX3_addBlock 3 (some .int) 0 0 (fun ad => [.ref (ad (r + 2) 1), .int a1, .int a2]) H x H' := by
  intro D K4 ad sz
  refine Met.ofV (by decide) (Nat.le_of_ble_eq_true rfl) ?_
  intro p e s m args below meth c hC hret hsz
  subst hsz
  exact s_X3_addBlock hC hret hr_r h
theorem dX3_addEdge_0 : decode cX3_addEdge 0 = .ok (.aload_n 0, 1) := by decide +kernel
theorem dX3_addEdge_1 : decode cX3_addEdge 1 = .ok (.getfield 47, 3) := by decide +kernel
theorem dX3_addEdge_4 : decode cX3_addEdge 4 = .ok (.bipush 40, 2) := by decide +kernel
theorem dX3_addEdge_6 : decode cX3_addEdge 6 = .ok (.if_icmp .ge 19, 3) := by decide +kernel
theorem dX3_addEdge_9 : decode cX3_addEdge 9 = .ok (.aload_n 0, 1) := by decide +kernel
theorem dX3_addEdge_10 : decode cX3_addEdge 10 = .ok (.iload_n 1, 1) := by decide +kernel
theorem dX3_addEdge_11 : decode cX3_addEdge 11 = .ok (.invokevirtual 50, 3) := by decide +kernel
theorem dX3_addEdge_14 : decode cX3_addEdge 14 = .ok (.ifCond .eq 11, 3) := by decide +kernel
theorem dX3_addEdge_17 : decode cX3_addEdge 17 = .ok (.aload_n 0, 1) := by decide +kernel
theorem dX3_addEdge_18 : decode cX3_addEdge 18 = .ok (.iload_n 2, 1) := by decide +kernel
theorem dX3_addEdge_19 : decode cX3_addEdge 19 = .ok (.invokevirtual 50, 3) := by decide +kernel
theorem dX3_addEdge_22 : decode cX3_addEdge 22 = .ok (.ifCond .ne 5, 3) := by decide +kernel
theorem dX3_addEdge_25 : decode cX3_addEdge 25 = .ok (.iconst (-1), 1) := by decide +kernel
theorem dX3_addEdge_26 : decode cX3_addEdge 26 = .ok (.ireturn, 1) := by decide +kernel
theorem dX3_addEdge_27 : decode cX3_addEdge 27 = .ok (.aload_n 0, 1) := by decide +kernel
theorem dX3_addEdge_28 : decode cX3_addEdge 28 = .ok (.iload_n 1, 1) := by decide +kernel
theorem dX3_addEdge_29 : decode cX3_addEdge 29 = .ok (.invokevirtual 54, 3) := by decide +kernel
theorem dX3_addEdge_32 : decode cX3_addEdge 32 = .ok (.ifCond .ne 13, 3) := by decide +kernel
theorem dX3_addEdge_35 : decode cX3_addEdge 35 = .ok (.aload_n 0, 1) := by decide +kernel
theorem dX3_addEdge_36 : decode cX3_addEdge 36 = .ok (.getfield 18, 3) := by decide +kernel
theorem dX3_addEdge_39 : decode cX3_addEdge 39 = .ok (.iload_n 1, 1) := by decide +kernel
theorem dX3_addEdge_40 : decode cX3_addEdge 40 = .ok (.iaload, 1) := by decide +kernel
theorem dX3_addEdge_41 : decode cX3_addEdge 41 = .ok (.iconst 4, 1) := by decide +kernel
theorem dX3_addEdge_42 : decode cX3_addEdge 42 = .ok (.if_icmp .lt 5, 3) := by decide +kernel
theorem dX3_addEdge_45 : decode cX3_addEdge 45 = .ok (.iconst (-1), 1) := by decide +kernel
theorem dX3_addEdge_46 : decode cX3_addEdge 46 = .ok (.ireturn, 1) := by decide +kernel
theorem dX3_addEdge_47 : decode cX3_addEdge 47 = .ok (.aload_n 0, 1) := by decide +kernel
theorem dX3_addEdge_48 : decode cX3_addEdge 48 = .ok (.getfield 27, 3) := by decide +kernel
theorem dX3_addEdge_51 : decode cX3_addEdge 51 = .ok (.aload_n 0, 1) := by decide +kernel
theorem dX3_addEdge_52 : decode cX3_addEdge 52 = .ok (.getfield 47, 3) := by decide +kernel
theorem dX3_addEdge_55 : decode cX3_addEdge 55 = .ok (.iload_n 1, 1) := by decide +kernel
theorem dX3_addEdge_56 : decode cX3_addEdge 56 = .ok (.iastore, 1) := by decide +kernel
theorem dX3_addEdge_57 : decode cX3_addEdge 57 = .ok (.aload_n 0, 1) := by decide +kernel
theorem dX3_addEdge_58 : decode cX3_addEdge 58 = .ok (.getfield 30, 3) := by decide +kernel
theorem dX3_addEdge_61 : decode cX3_addEdge 61 = .ok (.aload_n 0, 1) := by decide +kernel
theorem dX3_addEdge_62 : decode cX3_addEdge 62 = .ok (.getfield 47, 3) := by decide +kernel
theorem dX3_addEdge_65 : decode cX3_addEdge 65 = .ok (.iload_n 2, 1) := by decide +kernel
theorem dX3_addEdge_66 : decode cX3_addEdge 66 = .ok (.iastore, 1) := by decide +kernel
theorem dX3_addEdge_67 : decode cX3_addEdge 67 = .ok (.aload_n 0, 1) := by decide +kernel
theorem dX3_addEdge_68 : decode cX3_addEdge 68 = .ok (.getfield 33, 3) := by decide +kernel
theorem dX3_addEdge_71 : decode cX3_addEdge 71 = .ok (.aload_n 0, 1) := by decide +kernel
theorem dX3_addEdge_72 : decode cX3_addEdge 72 = .ok (.getfield 47, 3) := by decide +kernel
theorem dX3_addEdge_75 : decode cX3_addEdge 75 = .ok (.iload_n 3, 1) := by decide +kernel
theorem dX3_addEdge_76 : decode cX3_addEdge 76 = .ok (.iastore, 1) := by decide +kernel
theorem dX3_addEdge_77 : decode cX3_addEdge 77 = .ok (.aload_n 0, 1) := by decide +kernel
theorem dX3_addEdge_78 : decode cX3_addEdge 78 = .ok (.getfield 36, 3) := by decide +kernel
theorem dX3_addEdge_81 : decode cX3_addEdge 81 = .ok (.aload_n 0, 1) := by decide +kernel
theorem dX3_addEdge_82 : decode cX3_addEdge 82 = .ok (.getfield 47, 3) := by decide +kernel
theorem dX3_addEdge_85 : decode cX3_addEdge 85 = .ok (.iload 4, 2) := by decide +kernel
theorem dX3_addEdge_87 : decode cX3_addEdge 87 = .ok (.bastore, 1) := by decide +kernel
theorem dX3_addEdge_88 : decode cX3_addEdge 88 = .ok (.aload_n 0, 1) := by decide +kernel
theorem dX3_addEdge_89 : decode cX3_addEdge 89 = .ok (.getfield 24, 3) := by decide +kernel
theorem dX3_addEdge_92 : decode cX3_addEdge 92 = .ok (.iload_n 1, 1) := by decide +kernel
theorem dX3_addEdge_93 : decode cX3_addEdge 93 = .ok (.iconst 4, 1) := by decide +kernel
theorem dX3_addEdge_94 : decode cX3_addEdge 94 = .ok (.imul, 1) := by decide +kernel
theorem dX3_addEdge_95 : decode cX3_addEdge 95 = .ok (.aload_n 0, 1) := by decide +kernel
theorem dX3_addEdge_96 : decode cX3_addEdge 96 = .ok (.getfield 18, 3) := by decide +kernel
theorem dX3_addEdge_99 : decode cX3_addEdge 99 = .ok (.iload_n 1, 1) := by decide +kernel
theorem dX3_addEdge_100 : decode cX3_addEdge 100 = .ok (.iaload, 1) := by decide +kernel
theorem dX3_addEdge_101 : decode cX3_addEdge 101 = .ok (.iadd, 1) := by decide +kernel
theorem dX3_addEdge_102 : decode cX3_addEdge 102 = .ok (.aload_n 0, 1) := by decide +kernel
theorem dX3_addEdge_103 : decode cX3_addEdge 103 = .ok (.getfield 47, 3) := by decide +kernel
theorem dX3_addEdge_106 : decode cX3_addEdge 106 = .ok (.iastore, 1) := by decide +kernel
theorem dX3_addEdge_107 : decode cX3_addEdge 107 = .ok (.aload_n 0, 1) := by decide +kernel
theorem dX3_addEdge_108 : decode cX3_addEdge 108 = .ok (.getfield 18, 3) := by decide +kernel
theorem dX3_addEdge_111 : decode cX3_addEdge 111 = .ok (.iload_n 1, 1) := by decide +kernel
theorem dX3_addEdge_112 : decode cX3_addEdge 112 = .ok (.dup2, 1) := by decide +kernel
theorem dX3_addEdge_113 : decode cX3_addEdge 113 = .ok (.iaload, 1) := by decide +kernel
theorem dX3_addEdge_114 : decode cX3_addEdge 114 = .ok (.iconst 1, 1) := by decide +kernel
theorem dX3_addEdge_115 : decode cX3_addEdge 115 = .ok (.iadd, 1) := by decide +kernel
theorem dX3_addEdge_116 : decode cX3_addEdge 116 = .ok (.iastore, 1) := by decide +kernel
theorem dX3_addEdge_117 : decode cX3_addEdge 117 = .ok (.aload_n 0, 1) := by decide +kernel
theorem dX3_addEdge_118 : decode cX3_addEdge 118 = .ok (.getfield 21, 3) := by decide +kernel
theorem dX3_addEdge_121 : decode cX3_addEdge 121 = .ok (.iload_n 2, 1) := by decide +kernel
theorem dX3_addEdge_122 : decode cX3_addEdge 122 = .ok (.dup2, 1) := by decide +kernel
theorem dX3_addEdge_123 : decode cX3_addEdge 123 = .ok (.iaload, 1) := by decide +kernel
theorem dX3_addEdge_124 : decode cX3_addEdge 124 = .ok (.iconst 1, 1) := by decide +kernel
theorem dX3_addEdge_125 : decode cX3_addEdge 125 = .ok (.iadd, 1) := by decide +kernel
theorem dX3_addEdge_126 : decode cX3_addEdge 126 = .ok (.iastore, 1) := by decide +kernel
theorem dX3_addEdge_127 : decode cX3_addEdge 127 = .ok (.aload_n 0, 1) := by decide +kernel
theorem dX3_addEdge_128 : decode cX3_addEdge 128 = .ok (.dup, 1) := by decide +kernel
theorem dX3_addEdge_129 : decode cX3_addEdge 129 = .ok (.getfield 47, 3) := by decide +kernel
theorem dX3_addEdge_132 : decode cX3_addEdge 132 = .ok (.iconst 1, 1) := by decide +kernel
theorem dX3_addEdge_133 : decode cX3_addEdge 133 = .ok (.iadd, 1) := by decide +kernel
theorem dX3_addEdge_134 : decode cX3_addEdge 134 = .ok (.putfield 47, 3) := by decide +kernel
theorem dX3_addEdge_137 : decode cX3_addEdge 137 = .ok (.aload_n 0, 1) := by decide +kernel
theorem dX3_addEdge_138 : decode cX3_addEdge 138 = .ok (.getfield 47, 3) := by decide +kernel
theorem dX3_addEdge_141 : decode cX3_addEdge 141 = .ok (.iconst 1, 1) := by decide +kernel
theorem dX3_addEdge_142 : decode cX3_addEdge 142 = .ok (.isub, 1) := by decide +kernel
theorem dX3_addEdge_143 : decode cX3_addEdge 143 = .ok (.ireturn, 1) := by decide +kernel
def f_X3_addEdge (r : Nat) (a1 : Int32) (a2 : Int32) (a3 : Int32) (a4 : Int32) (H : Hp) : Option (Int32 × Hp) := if 40 ≤ (gI H (r + 2) 1 11) then some ((-1), H) else bnd (f_X3_hasBlock r a1 H) (fun w3 H2 => if w3 = 0 then some ((-1), H2) else bnd (f_X3_hasBlock r a2 H2) (fun w6 H5 => if w6 = 0 then some ((-1), H5) else bnd (f_X3_endsIn r a1 H5) (fun w9 H8 => if w9 = 0 then gd a1 20 (if (gI H8 (r + 2) 10 (Int32.toNatClampNeg a1)) < 4 then gd (gI H8 (r + 2) 1 11) 61 (hl (sI H8 (r + 2) 13 (Int32.toNatClampNeg (gI H8 (r + 2) 1 11)) a1) (fun (H12 : Hp) => gd (gI H12 (r + 2) 1 11) 61 (hl (sI H12 (r + 2) 14 (Int32.toNatClampNeg (gI H12 (r + 2) 1 11)) a2) (fun (H13 : Hp) => gd (gI H13 (r + 2) 1 11) 40 (hl (sI H13 (r + 2) 15 (Int32.toNatClampNeg (gI H13 (r + 2) 1 11)) a3) (fun (H14 : Hp) => gd (gI H14 (r + 2) 1 11) 40 (hl (sI H14 (r + 2) 16 (Int32.toNatClampNeg (gI H14 (r + 2) 1 11)) (vp_nar .boolean a4)) (fun (H15 : Hp) => gd a1 20 (gd ((a1 * 4) + (gI H15 (r + 2) 10 (Int32.toNatClampNeg a1))) 80 (hl (sI H15 (r + 2) 12 (Int32.toNatClampNeg ((a1 * 4) + (gI H15 (r + 2) 10 (Int32.toNatClampNeg a1)))) (gI H15 (r + 2) 1 11)) (fun (H16 : Hp) => gd a1 20 (gd a1 20 (hl (sI H16 (r + 2) 10 (Int32.toNatClampNeg a1) ((gI H16 (r + 2) 10 (Int32.toNatClampNeg a1)) + 1)) (fun (H17 : Hp) => gd a2 20 (gd a2 20 (hl (sI H17 (r + 2) 11 (Int32.toNatClampNeg a2) ((gI H17 (r + 2) 11 (Int32.toNatClampNeg a2)) + 1)) (fun (H18 : Hp) => hl (sI H18 (r + 2) 1 11 ((gI H18 (r + 2) 1 11) + 1)) (fun (H19 : Hp) => some (((gI H19 (r + 2) 1 11) - 1), H19))))))))))))))))))) else some ((-1), H8)) else some ((-1), H8))))
set_option maxRecDepth 100000 in
set_option maxHeartbeats 4000000 in
theorem s_X3_addEdge {p : Program} {l : Launch} {e : Env} {s : State} {m : MethodId} {args : Array Value} {below : List Frame} {meth : Method} {c : Code} {A : Nat → Prop} {D : va_G} {K4 : kQ} {ad : Nat → Nat → Nat} {nr : Nat} {r : Nat} {a1 : Int32} {a2 : Int32} {a3 : Int32} {a4 : Int32} {H : Hp} {res : Int32 × Hp} (hC : Cx p s m args c A s.heap D K4 5 RX3 cX3_addEdge) (hret : meth.sig.returnType = (some .int) ∧ meth.locks = false) (hr_r : r < nr) (h : f_X3_addEdge r a1 a2 a3 a4 H = some res) : V p l e ({ frames := 1, cells := 0, slots := 0, locals := 21 }) s m args below meth c A s.heap (QI below args s A D K4 ad nr res) D K4 ad nr 5 0 [(0, .ref (ad (r + 2) 1)), (1, .int a1), (2, .int a2), (3, .int a3), (4, .int a4)] [] H := by
  unfold f_X3_addEdge at h
  refine V_aload_n hC 0 dX3_addEdge_0 rfl ?_
  refine V_getI (g := (r + 2)) (k := 1) hC 3 11 fl_X3_47 (okR hr_r rfl) rfl rfl dX3_addEdge_1 ?_
  refine V_bipush (v := 40) hC dX3_addEdge_4 (by decide) ?_
  refine V_icmp_ge (tgt := 25) hC dX3_addEdge_6 (by decide) (fun c1 => ?_) (fun c1 => ?_)
  · have h := it_pos c1 h
    refine V_iconst (v := -1) hC dX3_addEdge_25 (by decide) ?_
    exact V_iret hC hret dX3_addEdge_26 h
  · have h := it_neg c1 h
    refine V_aload_n hC 0 dX3_addEdge_9 rfl ?_
    refine V_iload_n hC 1 dX3_addEdge_10 rfl ?_
    obtain ⟨w3, H2, hc, h⟩ := bnd_some h
    refine V_calli (g := (r + 2)) (k := 1) (As := [.int a1]) (st := []) hC (c_X3_hasBlock l (hr_r := hr_r) hc) rfl ml_X3_50 ⟨Nat.le_of_ble_eq_true rfl, Nat.le_of_ble_eq_true rfl⟩ (okR hr_r rfl) rfl rfl (Nat.le_of_ble_eq_true rfl) dX3_addEdge_11 ?_
    refine V_if_eq (tgt := 25) hC dX3_addEdge_14 (by decide) (fun c4 => ?_) (fun c4 => ?_)
    · have h := it_pos c4 h
      refine V_iconst (v := -1) hC dX3_addEdge_25 (by decide) ?_
      exact V_iret hC hret dX3_addEdge_26 h
    · have h := it_neg c4 h
      refine V_aload_n hC 0 dX3_addEdge_17 rfl ?_
      refine V_iload_n hC 2 dX3_addEdge_18 rfl ?_
      obtain ⟨w6, H5, hc, h⟩ := bnd_some h
      refine V_calli (g := (r + 2)) (k := 1) (As := [.int a2]) (st := []) hC (c_X3_hasBlock l (hr_r := hr_r) hc) rfl ml_X3_50 ⟨Nat.le_of_ble_eq_true rfl, Nat.le_of_ble_eq_true rfl⟩ (okR hr_r rfl) rfl rfl (Nat.le_of_ble_eq_true rfl) dX3_addEdge_19 ?_
      refine V_if_ne (tgt := 27) hC dX3_addEdge_22 (by decide) (fun c7 => ?_) (fun c7 => ?_)
      · have h := it_neg c7 h
        refine V_aload_n hC 0 dX3_addEdge_27 rfl ?_
        refine V_iload_n hC 1 dX3_addEdge_28 rfl ?_
        obtain ⟨w9, H8, hc, h⟩ := bnd_some h
        refine V_calli (g := (r + 2)) (k := 1) (As := [.int a1]) (st := []) hC (c_X3_endsIn l (hr_r := hr_r) hc) rfl ml_X3_54 ⟨Nat.le_of_ble_eq_true rfl, Nat.le_of_ble_eq_true rfl⟩ (okR hr_r rfl) rfl rfl (Nat.le_of_ble_eq_true rfl) dX3_addEdge_29 ?_
        refine V_if_ne (tgt := 45) hC dX3_addEdge_32 (by decide) (fun c10 => ?_) (fun c10 => ?_)
        · have h := it_neg c10 h
          refine V_iconst (v := -1) hC dX3_addEdge_45 (by decide) ?_
          exact V_iret hC hret dX3_addEdge_46 h
        · have h := it_pos c10 h
          refine V_aload_n hC 0 dX3_addEdge_35 rfl ?_
          refine V_getR (g := (r + 2)) (k := 1) (g' := (r + 2)) (k' := 10) hC 3 2 fl_X3_18 (okR hr_r rfl) rfl rfl rfl dX3_addEdge_36 ?_
          refine V_iload_n hC 1 dX3_addEdge_39 rfl ?_
          obtain ⟨hi, h⟩ := gd_some h
          refine V_iald (g := (r + 2)) (k := 10) hC (okR hr_r rfl) rfl hi dX3_addEdge_40 ?_
          refine V_iconst (v := 4) hC dX3_addEdge_41 (by decide) ?_
          refine V_icmp_lt (tgt := 47) hC dX3_addEdge_42 (by decide) (fun c11 => ?_) (fun c11 => ?_)
          · have h := it_pos c11 h
            refine V_aload_n hC 0 dX3_addEdge_47 rfl ?_
            refine V_getR (g := (r + 2)) (k := 1) (g' := (r + 2)) (k' := 13) hC 3 5 fl_X3_27 (okR hr_r rfl) rfl rfl rfl dX3_addEdge_48 ?_
            refine V_aload_n hC 0 dX3_addEdge_51 rfl ?_
            refine V_getI (g := (r + 2)) (k := 1) hC 3 11 fl_X3_47 (okR hr_r rfl) rfl rfl dX3_addEdge_52 ?_
            refine V_iload_n hC 1 dX3_addEdge_55 rfl ?_
            obtain ⟨hi, h⟩ := gd_some h
            refine V_iast (g := (r + 2)) (k := 13) hC (okR hr_r rfl) rfl hi dX3_addEdge_56 ?_
            refine V_hl h (fun H12 h => ?_)
            refine V_aload_n hC 0 dX3_addEdge_57 rfl ?_
            refine V_getR (g := (r + 2)) (k := 1) (g' := (r + 2)) (k' := 14) hC 3 6 fl_X3_30 (okR hr_r rfl) rfl rfl rfl dX3_addEdge_58 ?_
            refine V_aload_n hC 0 dX3_addEdge_61 rfl ?_
            refine V_getI (g := (r + 2)) (k := 1) hC 3 11 fl_X3_47 (okR hr_r rfl) rfl rfl dX3_addEdge_62 ?_
            refine V_iload_n hC 2 dX3_addEdge_65 rfl ?_
            obtain ⟨hi, h⟩ := gd_some h
            refine V_iast (g := (r + 2)) (k := 14) hC (okR hr_r rfl) rfl hi dX3_addEdge_66 ?_
            refine V_hl h (fun H13 h => ?_)
            refine V_aload_n hC 0 dX3_addEdge_67 rfl ?_
            refine V_getR (g := (r + 2)) (k := 1) (g' := (r + 2)) (k' := 15) hC 3 7 fl_X3_33 (okR hr_r rfl) rfl rfl rfl dX3_addEdge_68 ?_
            refine V_aload_n hC 0 dX3_addEdge_71 rfl ?_
            refine V_getI (g := (r + 2)) (k := 1) hC 3 11 fl_X3_47 (okR hr_r rfl) rfl rfl dX3_addEdge_72 ?_
            refine V_iload_n hC 3 dX3_addEdge_75 rfl ?_
            obtain ⟨hi, h⟩ := gd_some h
            refine V_iast (g := (r + 2)) (k := 15) hC (okR hr_r rfl) rfl hi dX3_addEdge_76 ?_
            refine V_hl h (fun H14 h => ?_)
            refine V_aload_n hC 0 dX3_addEdge_77 rfl ?_
            refine V_getR (g := (r + 2)) (k := 1) (g' := (r + 2)) (k' := 16) hC 3 8 fl_X3_36 (okR hr_r rfl) rfl rfl rfl dX3_addEdge_78 ?_
            refine V_aload_n hC 0 dX3_addEdge_81 rfl ?_
            refine V_getI (g := (r + 2)) (k := 1) hC 3 11 fl_X3_47 (okR hr_r rfl) rfl rfl dX3_addEdge_82 ?_
            refine V_iload hC 4 dX3_addEdge_85 rfl ?_
            obtain ⟨hi, h⟩ := gd_some h
            refine V_zast (g := (r + 2)) (k := 16) hC (okR hr_r rfl) rfl hi dX3_addEdge_87 ?_
            refine V_hl h (fun H15 h => ?_)
            refine V_aload_n hC 0 dX3_addEdge_88 rfl ?_
            refine V_getR (g := (r + 2)) (k := 1) (g' := (r + 2)) (k' := 12) hC 3 4 fl_X3_24 (okR hr_r rfl) rfl rfl rfl dX3_addEdge_89 ?_
            refine V_iload_n hC 1 dX3_addEdge_92 rfl ?_
            refine V_iconst (v := 4) hC dX3_addEdge_93 (by decide) ?_
            refine V_imul hC dX3_addEdge_94 ?_
            refine V_aload_n hC 0 dX3_addEdge_95 rfl ?_
            refine V_getR (g := (r + 2)) (k := 1) (g' := (r + 2)) (k' := 10) hC 3 2 fl_X3_18 (okR hr_r rfl) rfl rfl rfl dX3_addEdge_96 ?_
            refine V_iload_n hC 1 dX3_addEdge_99 rfl ?_
            obtain ⟨hi, h⟩ := gd_some h
            refine V_iald (g := (r + 2)) (k := 10) hC (okR hr_r rfl) rfl hi dX3_addEdge_100 ?_
            refine V_iadd hC dX3_addEdge_101 ?_
            refine V_aload_n hC 0 dX3_addEdge_102 rfl ?_
            refine V_getI (g := (r + 2)) (k := 1) hC 3 11 fl_X3_47 (okR hr_r rfl) rfl rfl dX3_addEdge_103 ?_
            obtain ⟨hi, h⟩ := gd_some h
            refine V_iast (g := (r + 2)) (k := 12) hC (okR hr_r rfl) rfl hi dX3_addEdge_106 ?_
            refine V_hl h (fun H16 h => ?_)
            refine V_aload_n hC 0 dX3_addEdge_107 rfl ?_
            refine V_getR (g := (r + 2)) (k := 1) (g' := (r + 2)) (k' := 10) hC 3 2 fl_X3_18 (okR hr_r rfl) rfl rfl rfl dX3_addEdge_108 ?_
            refine V_iload_n hC 1 dX3_addEdge_111 rfl ?_
            refine V_dup2 hC dX3_addEdge_112 rfl rfl ?_
            obtain ⟨hi, h⟩ := gd_some h
            refine V_iald (g := (r + 2)) (k := 10) hC (okR hr_r rfl) rfl hi dX3_addEdge_113 ?_
            refine V_iconst (v := 1) hC dX3_addEdge_114 (by decide) ?_
            refine V_iadd hC dX3_addEdge_115 ?_
            obtain ⟨hi, h⟩ := gd_some h
            refine V_iast (g := (r + 2)) (k := 10) hC (okR hr_r rfl) rfl hi dX3_addEdge_116 ?_
            refine V_hl h (fun H17 h => ?_)
            refine V_aload_n hC 0 dX3_addEdge_117 rfl ?_
            refine V_getR (g := (r + 2)) (k := 1) (g' := (r + 2)) (k' := 11) hC 3 3 fl_X3_21 (okR hr_r rfl) rfl rfl rfl dX3_addEdge_118 ?_
            refine V_iload_n hC 2 dX3_addEdge_121 rfl ?_
            refine V_dup2 hC dX3_addEdge_122 rfl rfl ?_
            obtain ⟨hi, h⟩ := gd_some h
            refine V_iald (g := (r + 2)) (k := 11) hC (okR hr_r rfl) rfl hi dX3_addEdge_123 ?_
            refine V_iconst (v := 1) hC dX3_addEdge_124 (by decide) ?_
            refine V_iadd hC dX3_addEdge_125 ?_
            obtain ⟨hi, h⟩ := gd_some h
            refine V_iast (g := (r + 2)) (k := 11) hC (okR hr_r rfl) rfl hi dX3_addEdge_126 ?_
            refine V_hl h (fun H18 h => ?_)
            refine V_aload_n hC 0 dX3_addEdge_127 rfl ?_
            refine V_dup hC dX3_addEdge_128 rfl ?_
            refine V_getI (g := (r + 2)) (k := 1) hC 3 11 fl_X3_47 (okR hr_r rfl) rfl rfl dX3_addEdge_129 ?_
            refine V_iconst (v := 1) hC dX3_addEdge_132 (by decide) ?_
            refine V_iadd hC dX3_addEdge_133 ?_
            refine V_putI (g := (r + 2)) (k := 1) hC 3 11 .int fw_X3_47 (okR hr_r rfl) rfl rfl rfl rfl dX3_addEdge_134 ?_
            refine V_hl h (fun H19 h => ?_)
            refine V_aload_n hC 0 dX3_addEdge_137 rfl ?_
            refine V_getI (g := (r + 2)) (k := 1) hC 3 11 fl_X3_47 (okR hr_r rfl) rfl rfl dX3_addEdge_138 ?_
            refine V_iconst (v := 1) hC dX3_addEdge_141 (by decide) ?_
            refine V_isub hC dX3_addEdge_142 ?_
            exact V_iret hC hret dX3_addEdge_143 h
          · have h := it_neg c11 h
            refine V_iconst (v := -1) hC dX3_addEdge_45 (by decide) ?_
            exact V_iret hC hret dX3_addEdge_46 h
      · have h := it_pos c7 h
        refine V_iconst (v := -1) hC dX3_addEdge_25 (by decide) ?_
        exact V_iret hC hret dX3_addEdge_26 h
theorem c_X3_addEdge (l : Launch) {nr : Nat} {r : Nat} (hr_r : r < nr) {a1 : Int32} {a2 : Int32} {a3 : Int32} {a4 : Int32} {H : Hp} {x : Int32} {H' : Hp} (h : f_X3_addEdge r a1 a2 a3 a4 H = some (x, H')) : CI l nr yX3_addEdge cX3_addEdge 5 (some .int) 1 21 (fun ad => [.ref (ad (r + 2) 1), .int a1, .int a2, .int a3, .int a4]) H x H' := by
  intro D K4 ad sz
  refine Met.ofV (by decide) (Nat.le_of_ble_eq_true rfl) ?_
  intro p e s m args below meth c hC hret hsz
  subst hsz
  exact s_X3_addEdge hC hret hr_r h
theorem dX3_outOf_0 : decode cX3_outOf 0 = .ok (.iload_n 2, 1) := by decide +kernel
theorem dX3_outOf_1 : decode cX3_outOf 1 = .ok (.ifCond .lt 13, 3) := by decide +kernel
theorem dX3_outOf_4 : decode cX3_outOf 4 = .ok (.iload_n 2, 1) := by decide +kernel
theorem dX3_outOf_5 : decode cX3_outOf 5 = .ok (.aload_n 0, 1) := by decide +kernel
theorem dX3_outOf_6 : decode cX3_outOf 6 = .ok (.getfield 18, 3) := by decide +kernel
theorem dX3_outOf_9 : decode cX3_outOf 9 = .ok (.iload_n 1, 1) := by decide +kernel
theorem dX3_outOf_10 : decode cX3_outOf 10 = .ok (.iaload, 1) := by decide +kernel
theorem dX3_outOf_11 : decode cX3_outOf 11 = .ok (.if_icmp .lt 7, 3) := by decide +kernel
theorem dX3_outOf_14 : decode cX3_outOf 14 = .ok (.iconst (-1), 1) := by decide +kernel
theorem dX3_outOf_15 : decode cX3_outOf 15 = .ok (.goto 13, 3) := by decide +kernel
theorem dX3_outOf_18 : decode cX3_outOf 18 = .ok (.aload_n 0, 1) := by decide +kernel
theorem dX3_outOf_19 : decode cX3_outOf 19 = .ok (.getfield 24, 3) := by decide +kernel
theorem dX3_outOf_22 : decode cX3_outOf 22 = .ok (.iload_n 1, 1) := by decide +kernel
theorem dX3_outOf_23 : decode cX3_outOf 23 = .ok (.iconst 4, 1) := by decide +kernel
theorem dX3_outOf_24 : decode cX3_outOf 24 = .ok (.imul, 1) := by decide +kernel
theorem dX3_outOf_25 : decode cX3_outOf 25 = .ok (.iload_n 2, 1) := by decide +kernel
theorem dX3_outOf_26 : decode cX3_outOf 26 = .ok (.iadd, 1) := by decide +kernel
theorem dX3_outOf_27 : decode cX3_outOf 27 = .ok (.iaload, 1) := by decide +kernel
theorem dX3_outOf_28 : decode cX3_outOf 28 = .ok (.ireturn, 1) := by decide +kernel
def f_X3_outOf (r : Nat) (a1 : Int32) (a2 : Int32) (H : Hp) : Option (Int32 × Hp) := if a2 < 0 then some ((-1), H) else gd a1 20 (if a2 < (gI H (r + 2) 10 (Int32.toNatClampNeg a1)) then gd ((a1 * 4) + a2) 80 (some ((gI H (r + 2) 12 (Int32.toNatClampNeg ((a1 * 4) + a2))), H)) else some ((-1), H))
set_option maxRecDepth 100000 in
set_option maxHeartbeats 4000000 in
theorem s_X3_outOf {p : Program} {l : Launch} {e : Env} {s : State} {m : MethodId} {args : Array Value} {below : List Frame} {meth : Method} {c : Code} {A : Nat → Prop} {D : va_G} {K4 : kQ} {ad : Nat → Nat → Nat} {nr : Nat} {r : Nat} {a1 : Int32} {a2 : Int32} {H : Hp} {res : Int32 × Hp} (hC : Cx p s m args c A s.heap D K4 3 RX3 cX3_outOf) (hret : meth.sig.returnType = (some .int) ∧ meth.locks = false) (hr_r : r < nr) (h : f_X3_outOf r a1 a2 H = some res) : V p l e ({ frames := 0, cells := 0, slots := 0, locals := 0 }) s m args below meth c A s.heap (QI below args s A D K4 ad nr res) D K4 ad nr 3 0 [(0, .ref (ad (r + 2) 1)), (1, .int a1), (2, .int a2)] [] H := by
  unfold f_X3_outOf at h
  refine V_iload_n hC 2 dX3_outOf_0 rfl ?_
  refine V_if_lt (tgt := 14) hC dX3_outOf_1 (by decide) (fun c1 => ?_) (fun c1 => ?_)
  · have h := it_pos c1 h
    refine V_iconst (v := -1) hC dX3_outOf_14 (by decide) ?_
    refine V_goto (tgt := 28) hC dX3_outOf_15 (by decide) ?_
    exact V_iret hC hret dX3_outOf_28 h
  · have h := it_neg c1 h
    refine V_iload_n hC 2 dX3_outOf_4 rfl ?_
    refine V_aload_n hC 0 dX3_outOf_5 rfl ?_
    refine V_getR (g := (r + 2)) (k := 1) (g' := (r + 2)) (k' := 10) hC 3 2 fl_X3_18 (okR hr_r rfl) rfl rfl rfl dX3_outOf_6 ?_
    refine V_iload_n hC 1 dX3_outOf_9 rfl ?_
    obtain ⟨hi, h⟩ := gd_some h
    refine V_iald (g := (r + 2)) (k := 10) hC (okR hr_r rfl) rfl hi dX3_outOf_10 ?_
    refine V_icmp_lt (tgt := 18) hC dX3_outOf_11 (by decide) (fun c2 => ?_) (fun c2 => ?_)
    · have h := it_pos c2 h
      refine V_aload_n hC 0 dX3_outOf_18 rfl ?_
      refine V_getR (g := (r + 2)) (k := 1) (g' := (r + 2)) (k' := 12) hC 3 4 fl_X3_24 (okR hr_r rfl) rfl rfl rfl dX3_outOf_19 ?_
      refine V_iload_n hC 1 dX3_outOf_22 rfl ?_
      refine V_iconst (v := 4) hC dX3_outOf_23 (by decide) ?_
      refine V_imul hC dX3_outOf_24 ?_
      refine V_iload_n hC 2 dX3_outOf_25 rfl ?_
      refine V_iadd hC dX3_outOf_26 ?_
      obtain ⟨hi, h⟩ := gd_some h
      refine V_iald (g := (r + 2)) (k := 12) hC (okR hr_r rfl) rfl hi dX3_outOf_27 ?_
      exact V_iret hC hret dX3_outOf_28 h
    · have h := it_neg c2 h
      refine V_iconst (v := -1) hC dX3_outOf_14 (by decide) ?_
      refine V_goto (tgt := 28) hC dX3_outOf_15 (by decide) ?_
      exact V_iret hC hret dX3_outOf_28 h
theorem c_X3_outOf (l : Launch) {nr : Nat} {r : Nat} (hr_r : r < nr) {a1 : Int32} {a2 : Int32} {H : Hp} {x : Int32} {H' : Hp} (h : f_X3_outOf r a1 a2 H = some (x, H')) : CI l nr yX3_outOf cX3_outOf 3 (some .int) 0 0 (fun ad => [.ref (ad (r + 2) 1), .int a1, .int a2]) H x H' := by
  intro D K4 ad sz
  refine Met.ofV (by decide) (Nat.le_of_ble_eq_true rfl) ?_
  intro p e s m args below meth c hC hret hsz
  subst hsz
  exact s_X3_outOf hC hret hr_r h
theorem dX3_outsFitKinds_0 : decode cX3_outsFitKinds 0 = .ok (.iconst 0, 1) := by decide +kernel
theorem dX3_outsFitKinds_1 : decode cX3_outsFitKinds 1 = .ok (.istore_n 1, 1) := by decide +kernel
theorem dX3_outsFitKinds_2 : decode cX3_outsFitKinds 2 = .ok (.iload_n 1, 1) := by decide +kernel
theorem dX3_outsFitKinds_3 : decode cX3_outsFitKinds 3 = .ok (.aload_n 0, 1) := by decide +kernel
theorem dX3_outsFitKinds_4 : decode cX3_outsFitKinds 4 = .ok (.getfield 43, 3) := by decide +kernel
theorem dX3_outsFitKinds_7 : decode cX3_outsFitKinds 7 = .ok (.if_icmp .ge 75, 3) := by decide +kernel
theorem dX3_outsFitKinds_10 : decode cX3_outsFitKinds 10 = .ok (.aload_n 0, 1) := by decide +kernel
theorem dX3_outsFitKinds_11 : decode cX3_outsFitKinds 11 = .ok (.iload_n 1, 1) := by decide +kernel
theorem dX3_outsFitKinds_12 : decode cX3_outsFitKinds 12 = .ok (.invokevirtual 54, 3) := by decide +kernel
theorem dX3_outsFitKinds_15 : decode cX3_outsFitKinds 15 = .ok (.ifCond .eq 7, 3) := by decide +kernel
theorem dX3_outsFitKinds_18 : decode cX3_outsFitKinds 18 = .ok (.iconst 0, 1) := by decide +kernel
theorem dX3_outsFitKinds_19 : decode cX3_outsFitKinds 19 = .ok (.goto 18, 3) := by decide +kernel
theorem dX3_outsFitKinds_22 : decode cX3_outsFitKinds 22 = .ok (.aload_n 0, 1) := by decide +kernel
theorem dX3_outsFitKinds_23 : decode cX3_outsFitKinds 23 = .ok (.getfield 9, 3) := by decide +kernel
theorem dX3_outsFitKinds_26 : decode cX3_outsFitKinds 26 = .ok (.iload_n 1, 1) := by decide +kernel
theorem dX3_outsFitKinds_27 : decode cX3_outsFitKinds 27 = .ok (.iaload, 1) := by decide +kernel
theorem dX3_outsFitKinds_28 : decode cX3_outsFitKinds 28 = .ok (.iconst 1, 1) := by decide +kernel
theorem dX3_outsFitKinds_29 : decode cX3_outsFitKinds 29 = .ok (.if_icmp .ne 7, 3) := by decide +kernel
theorem dX3_outsFitKinds_32 : decode cX3_outsFitKinds 32 = .ok (.iconst 2, 1) := by decide +kernel
theorem dX3_outsFitKinds_33 : decode cX3_outsFitKinds 33 = .ok (.goto 4, 3) := by decide +kernel
theorem dX3_outsFitKinds_36 : decode cX3_outsFitKinds 36 = .ok (.iconst 1, 1) := by decide +kernel
theorem dX3_outsFitKinds_37 : decode cX3_outsFitKinds 37 = .ok (.istore_n 2, 1) := by decide +kernel
theorem dX3_outsFitKinds_38 : decode cX3_outsFitKinds 38 = .ok (.aload_n 0, 1) := by decide +kernel
theorem dX3_outsFitKinds_39 : decode cX3_outsFitKinds 39 = .ok (.getfield 9, 3) := by decide +kernel
theorem dX3_outsFitKinds_42 : decode cX3_outsFitKinds 42 = .ok (.iload_n 1, 1) := by decide +kernel
theorem dX3_outsFitKinds_43 : decode cX3_outsFitKinds 43 = .ok (.iaload, 1) := by decide +kernel
theorem dX3_outsFitKinds_44 : decode cX3_outsFitKinds 44 = .ok (.iconst 1, 1) := by decide +kernel
theorem dX3_outsFitKinds_45 : decode cX3_outsFitKinds 45 = .ok (.if_icmp .ne 7, 3) := by decide +kernel
theorem dX3_outsFitKinds_48 : decode cX3_outsFitKinds 48 = .ok (.iconst 4, 1) := by decide +kernel
theorem dX3_outsFitKinds_49 : decode cX3_outsFitKinds 49 = .ok (.goto 4, 3) := by decide +kernel
theorem dX3_outsFitKinds_52 : decode cX3_outsFitKinds 52 = .ok (.iload_n 2, 1) := by decide +kernel
theorem dX3_outsFitKinds_53 : decode cX3_outsFitKinds 53 = .ok (.istore_n 3, 1) := by decide +kernel
theorem dX3_outsFitKinds_54 : decode cX3_outsFitKinds 54 = .ok (.aload_n 0, 1) := by decide +kernel
theorem dX3_outsFitKinds_55 : decode cX3_outsFitKinds 55 = .ok (.getfield 18, 3) := by decide +kernel
theorem dX3_outsFitKinds_58 : decode cX3_outsFitKinds 58 = .ok (.iload_n 1, 1) := by decide +kernel
theorem dX3_outsFitKinds_59 : decode cX3_outsFitKinds 59 = .ok (.iaload, 1) := by decide +kernel
theorem dX3_outsFitKinds_60 : decode cX3_outsFitKinds 60 = .ok (.iload_n 2, 1) := by decide +kernel
theorem dX3_outsFitKinds_61 : decode cX3_outsFitKinds 61 = .ok (.if_icmp .lt 13, 3) := by decide +kernel
theorem dX3_outsFitKinds_64 : decode cX3_outsFitKinds 64 = .ok (.aload_n 0, 1) := by decide +kernel
theorem dX3_outsFitKinds_65 : decode cX3_outsFitKinds 65 = .ok (.getfield 18, 3) := by decide +kernel
theorem dX3_outsFitKinds_68 : decode cX3_outsFitKinds 68 = .ok (.iload_n 1, 1) := by decide +kernel
theorem dX3_outsFitKinds_69 : decode cX3_outsFitKinds 69 = .ok (.iaload, 1) := by decide +kernel
theorem dX3_outsFitKinds_70 : decode cX3_outsFitKinds 70 = .ok (.iload_n 3, 1) := by decide +kernel
theorem dX3_outsFitKinds_71 : decode cX3_outsFitKinds 71 = .ok (.if_icmp .le 5, 3) := by decide +kernel
theorem dX3_outsFitKinds_74 : decode cX3_outsFitKinds 74 = .ok (.iconst 0, 1) := by decide +kernel
theorem dX3_outsFitKinds_75 : decode cX3_outsFitKinds 75 = .ok (.ireturn, 1) := by decide +kernel
theorem dX3_outsFitKinds_76 : decode cX3_outsFitKinds 76 = .ok (.iinc 1 1, 3) := by decide +kernel
theorem dX3_outsFitKinds_79 : decode cX3_outsFitKinds 79 = .ok (.goto (-77), 3) := by decide +kernel
theorem dX3_outsFitKinds_82 : decode cX3_outsFitKinds 82 = .ok (.iconst 1, 1) := by decide +kernel
theorem dX3_outsFitKinds_83 : decode cX3_outsFitKinds 83 = .ok (.ireturn, 1) := by decide +kernel
def L_X3_outsFitKinds_2 (r : Nat) (k : Hp → Option (Int32 × Hp)) : Nat → Int32 → Hp → Option (Int32 × Hp)
  | 0, _, _ => none
  | n + 1, x1, H => if (gI H (r + 2) 1 10) ≤ x1 then k H else bnd (f_X3_endsIn r x1 H) (fun w3 H2 => jn (fun (y5 : Int32) (H6 : Hp) => gd x1 20 (jn (fun (y8 : Int32) (H9 : Hp) => gd x1 20 (if (gI H9 (r + 2) 10 (Int32.toNatClampNeg x1)) < y5 then some (0, H9) else gd x1 20 (if (gI H9 (r + 2) 10 (Int32.toNatClampNeg x1)) ≤ y8 then vl (x1 + (1 : Int32)) (fun (v12 : Int32) => L_X3_outsFitKinds_2 r k n v12 H9) else some (0, H9)))) (fun j7 => if (gI H6 (r + 2) 8 (Int32.toNatClampNeg x1)) = 1 then j7 4 H6 else j7 y5 H6))) (fun j4 => if w3 = 0 then gd x1 20 (if (gI H2 (r + 2) 8 (Int32.toNatClampNeg x1)) = 1 then j4 2 H2 else j4 1 H2) else j4 0 H2))
set_option maxRecDepth 100000 in
set_option maxHeartbeats 4000000 in
theorem sL_X3_outsFitKinds_2 {p : Program} {l : Launch} {e : Env} {s : State} {m : MethodId} {args : Array Value} {below : List Frame} {meth : Method} {c : Code} {A : Nat → Prop} {D : va_G} {K4 : kQ} {ad : Nat → Nat → Nat} {nr : Nat} {r : Nat} {k : Hp → Option (Int32 × Hp)} {res : Int32 × Hp} (hC : Cx p s m args c A s.heap D K4 4 RX3 cX3_outsFitKinds) (hret : meth.sig.returnType = (some .boolean) ∧ meth.locks = false) (hr_r : r < nr) (hk : ∀ (H : Hp), k H = some res → V p l e ({ frames := 1, cells := 0, slots := 0, locals := 21 }) s m args below meth c A s.heap (QI below args s A D K4 ad nr res) D K4 ad nr 4 82 [] [] H) : ∀ (n : Nat) (x1 : Int32) (H : Hp), L_X3_outsFitKinds_2 r k n x1 H = some res → V p l e ({ frames := 1, cells := 0, slots := 0, locals := 21 }) s m args below meth c A s.heap (QI below args s A D K4 ad nr res) D K4 ad nr 4 2 [(0, .ref (ad (r + 2) 1)), (1, .int x1)] [] H := by
  intro n
  induction n with
  | zero => intro x1 H h; exact nomatch (show (none : Option (Int32 × Hp)) = some res from h)
  | succ n ih =>
    intro x1 H h
    rw [L_X3_outsFitKinds_2] at h
    refine V_iload_n hC 1 dX3_outsFitKinds_2 rfl ?_
    refine V_aload_n hC 0 dX3_outsFitKinds_3 rfl ?_
    refine V_getI (g := (r + 2)) (k := 1) hC 3 10 fl_X3_43 (okR hr_r rfl) rfl rfl dX3_outsFitKinds_4 ?_
    refine V_icmp_ge (tgt := 82) hC dX3_outsFitKinds_7 (by decide) (fun c1 => ?_) (fun c1 => ?_)
    · have h := it_pos c1 h
      refine V_lv (lv' := []) [] rfl ?_
      exact hk H h
    · have h := it_neg c1 h
      refine V_aload_n hC 0 dX3_outsFitKinds_10 rfl ?_
      refine V_iload_n hC 1 dX3_outsFitKinds_11 rfl ?_
      obtain ⟨w3, H2, hc, h⟩ := bnd_some h
      refine V_calli (g := (r + 2)) (k := 1) (As := [.int x1]) (st := []) hC (c_X3_endsIn l (hr_r := hr_r) hc) rfl ml_X3_54 ⟨Nat.le_of_ble_eq_true rfl, Nat.le_of_ble_eq_true rfl⟩ (okR hr_r rfl) rfl rfl (Nat.le_of_ble_eq_true rfl) dX3_outsFitKinds_12 ?_
      refine V_jn1 (pj := 37) (lj := fun y5 => [(0, .ref (ad (r + 2) 1)), (1, .int x1)]) (sj := fun y5 => [.int y5]) h (fun y5 H6 h => ?_) (fun hj4 h => ?_)
      · refine V_istore_n (lv' := [(2, .int y5), (0, .ref (ad (r + 2) 1)), (1, .int x1)]) hC dX3_outsFitKinds_37 (Nat.le_of_ble_eq_true rfl) rfl ?_
        refine V_aload_n hC 1 dX3_outsFitKinds_38 rfl ?_
        refine V_getR (g := (r + 2)) (k := 1) (g' := (r + 2)) (k' := 8) hC 3 0 fl_X3_9 (okR hr_r rfl) rfl rfl rfl dX3_outsFitKinds_39 ?_
        refine V_iload_n hC 2 dX3_outsFitKinds_42 rfl ?_
        obtain ⟨hi, h⟩ := gd_some h
        refine V_iald (g := (r + 2)) (k := 8) hC (okR hr_r rfl) rfl hi dX3_outsFitKinds_43 ?_
        refine V_iconst (v := 1) hC dX3_outsFitKinds_44 (by decide) ?_
        refine V_jn1 (pj := 53) (lj := fun y8 => [(0, .ref (ad (r + 2) 1)), (1, .int x1), (2, .int y5)]) (sj := fun y8 => [.int y8]) h (fun y8 H9 h => ?_) (fun hj7 h => ?_)
        · refine V_istore_n (lv' := [(3, .int y8), (0, .ref (ad (r + 2) 1)), (1, .int x1), (2, .int y5)]) hC dX3_outsFitKinds_53 (Nat.le_of_ble_eq_true rfl) rfl ?_
          refine V_aload_n hC 1 dX3_outsFitKinds_54 rfl ?_
          refine V_getR (g := (r + 2)) (k := 1) (g' := (r + 2)) (k' := 10) hC 3 2 fl_X3_18 (okR hr_r rfl) rfl rfl rfl dX3_outsFitKinds_55 ?_
          refine V_iload_n hC 2 dX3_outsFitKinds_58 rfl ?_
          obtain ⟨hi, h⟩ := gd_some h
          refine V_iald (g := (r + 2)) (k := 10) hC (okR hr_r rfl) rfl hi dX3_outsFitKinds_59 ?_
          refine V_iload_n hC 3 dX3_outsFitKinds_60 rfl ?_
          refine V_icmp_lt (tgt := 74) hC dX3_outsFitKinds_61 (by decide) (fun c10 => ?_) (fun c10 => ?_)
          · have h := it_pos c10 h
            refine V_iconst (v := 0) hC dX3_outsFitKinds_74 (by decide) ?_
            exact V_zret hC hret (by decide) dX3_outsFitKinds_75 h
          · have h := it_neg c10 h
            refine V_aload_n hC 1 dX3_outsFitKinds_64 rfl ?_
            refine V_getR (g := (r + 2)) (k := 1) (g' := (r + 2)) (k' := 10) hC 3 2 fl_X3_18 (okR hr_r rfl) rfl rfl rfl dX3_outsFitKinds_65 ?_
            refine V_iload_n hC 2 dX3_outsFitKinds_68 rfl ?_
            obtain ⟨hi, h⟩ := gd_some h
            refine V_iald (g := (r + 2)) (k := 10) hC (okR hr_r rfl) rfl hi dX3_outsFitKinds_69 ?_
            refine V_iload_n hC 0 dX3_outsFitKinds_70 rfl ?_
            refine V_icmp_le (tgt := 76) hC dX3_outsFitKinds_71 (by decide) (fun c11 => ?_) (fun c11 => ?_)
            · have h := it_pos c11 h
              refine V_vi h (fun v12 hvv12 h => ?_)
              refine V_iinc (v := v12) (lv' := [(1, .int v12), (3, .int y8), (0, .ref (ad (r + 2) 1)), (2, .int y5)]) hC 2 dX3_outsFitKinds_76 rfl hvv12.symm (Nat.le_of_ble_eq_true rfl) rfl ?_
              refine V_goto (tgt := 2) hC dX3_outsFitKinds_79 (by decide) ?_
              refine V_lv (lv' := [(0, .ref (ad (r + 2) 1)), (1, .int v12)]) [2, 0] rfl ?_
              exact ih v12 H9 h
            · have h := it_neg c11 h
              refine V_iconst (v := 0) hC dX3_outsFitKinds_74 (by decide) ?_
              exact V_zret hC hret (by decide) dX3_outsFitKinds_75 h
        · refine V_icmp_ne (tgt := 52) hC dX3_outsFitKinds_45 (by decide) (fun c13 => ?_) (fun c13 => ?_)
          · have h := it_neg c13 h
            refine V_iload_n hC 0 dX3_outsFitKinds_52 rfl ?_
            refine V_lv (lv' := [(0, .ref (ad (r + 2) 1)), (1, .int x1), (2, .int y5)]) [1, 2, 0] rfl ?_
            exact hj7 y5 H6 h
          · have h := it_pos c13 h
            refine V_iconst (v := 4) hC dX3_outsFitKinds_48 (by decide) ?_
            refine V_goto (tgt := 53) hC dX3_outsFitKinds_49 (by decide) ?_
            refine V_lv (lv' := [(0, .ref (ad (r + 2) 1)), (1, .int x1), (2, .int y5)]) [1, 2, 0] rfl ?_
            exact hj7 4 H6 h
      · refine V_if_eq (tgt := 22) hC dX3_outsFitKinds_15 (by decide) (fun c14 => ?_) (fun c14 => ?_)
        · have h := it_pos c14 h
          refine V_aload_n hC 0 dX3_outsFitKinds_22 rfl ?_
          refine V_getR (g := (r + 2)) (k := 1) (g' := (r + 2)) (k' := 8) hC 3 0 fl_X3_9 (okR hr_r rfl) rfl rfl rfl dX3_outsFitKinds_23 ?_
          refine V_iload_n hC 1 dX3_outsFitKinds_26 rfl ?_
          obtain ⟨hi, h⟩ := gd_some h
          refine V_iald (g := (r + 2)) (k := 8) hC (okR hr_r rfl) rfl hi dX3_outsFitKinds_27 ?_
          refine V_iconst (v := 1) hC dX3_outsFitKinds_28 (by decide) ?_
          refine V_icmp_ne (tgt := 36) hC dX3_outsFitKinds_29 (by decide) (fun c15 => ?_) (fun c15 => ?_)
          · have h := it_neg c15 h
            refine V_iconst (v := 1) hC dX3_outsFitKinds_36 (by decide) ?_
            refine V_lv (lv' := [(0, .ref (ad (r + 2) 1)), (1, .int x1)]) [0, 1] rfl ?_
            exact hj4 1 H2 h
          · have h := it_pos c15 h
            refine V_iconst (v := 2) hC dX3_outsFitKinds_32 (by decide) ?_
            refine V_goto (tgt := 37) hC dX3_outsFitKinds_33 (by decide) ?_
            refine V_lv (lv' := [(0, .ref (ad (r + 2) 1)), (1, .int x1)]) [0, 1] rfl ?_
            exact hj4 2 H2 h
        · have h := it_neg c14 h
          refine V_iconst (v := 0) hC dX3_outsFitKinds_18 (by decide) ?_
          refine V_goto (tgt := 37) hC dX3_outsFitKinds_19 (by decide) ?_
          refine V_lv (lv' := [(0, .ref (ad (r + 2) 1)), (1, .int x1)]) [0, 1] rfl ?_
          exact hj4 0 H2 h
def f_X3_outsFitKinds (r : Nat) (H : Hp) : Option (Int32 × Hp) := L_X3_outsFitKinds_2 r (fun (H16 : Hp) => some (1, H16)) FU 0 H
set_option maxRecDepth 100000 in
set_option maxHeartbeats 4000000 in
theorem s_X3_outsFitKinds {p : Program} {l : Launch} {e : Env} {s : State} {m : MethodId} {args : Array Value} {below : List Frame} {meth : Method} {c : Code} {A : Nat → Prop} {D : va_G} {K4 : kQ} {ad : Nat → Nat → Nat} {nr : Nat} {r : Nat} {H : Hp} {res : Int32 × Hp} (hC : Cx p s m args c A s.heap D K4 4 RX3 cX3_outsFitKinds) (hret : meth.sig.returnType = (some .boolean) ∧ meth.locks = false) (hr_r : r < nr) (h : f_X3_outsFitKinds r H = some res) : V p l e ({ frames := 1, cells := 0, slots := 0, locals := 21 }) s m args below meth c A s.heap (QI below args s A D K4 ad nr res) D K4 ad nr 4 0 [(0, .ref (ad (r + 2) 1))] [] H := by
  unfold f_X3_outsFitKinds at h
  refine V_iconst (v := 0) hC dX3_outsFitKinds_0 (by decide) ?_
  refine V_istore_n (lv' := [(1, .int 0), (0, .ref (ad (r + 2) 1))]) hC dX3_outsFitKinds_1 (Nat.le_of_ble_eq_true rfl) rfl ?_
  refine V_lv (lv' := [(0, .ref (ad (r + 2) 1)), (1, .int 0)]) [1, 0] rfl ?_
  refine sL_X3_outsFitKinds_2 hC hret hr_r (fun H16 h => ?_) _ 0 H h
  refine V_iconst (v := 1) hC dX3_outsFitKinds_82 (by decide) ?_
  exact V_zret hC hret (by decide) dX3_outsFitKinds_83 h
theorem c_X3_outsFitKinds (l : Launch) {nr : Nat} {r : Nat} (hr_r : r < nr) {H : Hp} {x : Int32} {H' : Hp} (h : f_X3_outsFitKinds r H = some (x, H')) : CI l nr yX3_outsFitKinds cX3_outsFitKinds 4 (some .boolean) 1 21 (fun ad => [.ref (ad (r + 2) 1)]) H x H' := by
  intro D K4 ad sz
  refine Met.ofV (by decide) (Nat.le_of_ble_eq_true rfl) ?_
  intro p e s m args below meth c hC hret hsz
  subst hsz
  exact s_X3_outsFitKinds hC hret hr_r h
theorem dX3_marksSpread_0 : decode cX3_marksSpread 0 = .ok (.iconst 0, 1) := by decide +kernel
theorem dX3_marksSpread_1 : decode cX3_marksSpread 1 = .ok (.istore_n 3, 1) := by decide +kernel
theorem dX3_marksSpread_2 : decode cX3_marksSpread 2 = .ok (.iload_n 3, 1) := by decide +kernel
theorem dX3_marksSpread_3 : decode cX3_marksSpread 3 = .ok (.aload_n 0, 1) := by decide +kernel
theorem dX3_marksSpread_4 : decode cX3_marksSpread 4 = .ok (.getfield 43, 3) := by decide +kernel
theorem dX3_marksSpread_7 : decode cX3_marksSpread 7 = .ok (.if_icmp .ge 49, 3) := by decide +kernel
theorem dX3_marksSpread_10 : decode cX3_marksSpread 10 = .ok (.iconst 0, 1) := by decide +kernel
theorem dX3_marksSpread_11 : decode cX3_marksSpread 11 = .ok (.istore 4, 2) := by decide +kernel
theorem dX3_marksSpread_13 : decode cX3_marksSpread 13 = .ok (.iload 4, 2) := by decide +kernel
theorem dX3_marksSpread_15 : decode cX3_marksSpread 15 = .ok (.aload_n 0, 1) := by decide +kernel
theorem dX3_marksSpread_16 : decode cX3_marksSpread 16 = .ok (.getfield 47, 3) := by decide +kernel
theorem dX3_marksSpread_19 : decode cX3_marksSpread 19 = .ok (.if_icmp .ge 31, 3) := by decide +kernel
theorem dX3_marksSpread_22 : decode cX3_marksSpread 22 = .ok (.aload_n 0, 1) := by decide +kernel
theorem dX3_marksSpread_23 : decode cX3_marksSpread 23 = .ok (.getfield 40, 3) := by decide +kernel
theorem dX3_marksSpread_26 : decode cX3_marksSpread 26 = .ok (.aload_n 1, 1) := by decide +kernel
theorem dX3_marksSpread_27 : decode cX3_marksSpread 27 = .ok (.iload 4, 2) := by decide +kernel
theorem dX3_marksSpread_29 : decode cX3_marksSpread 29 = .ok (.iaload, 1) := by decide +kernel
theorem dX3_marksSpread_30 : decode cX3_marksSpread 30 = .ok (.baload, 1) := by decide +kernel
theorem dX3_marksSpread_31 : decode cX3_marksSpread 31 = .ok (.ifCond .eq 13, 3) := by decide +kernel
theorem dX3_marksSpread_34 : decode cX3_marksSpread 34 = .ok (.aload_n 0, 1) := by decide +kernel
theorem dX3_marksSpread_35 : decode cX3_marksSpread 35 = .ok (.getfield 40, 3) := by decide +kernel
theorem dX3_marksSpread_38 : decode cX3_marksSpread 38 = .ok (.aload_n 2, 1) := by decide +kernel
theorem dX3_marksSpread_39 : decode cX3_marksSpread 39 = .ok (.iload 4, 2) := by decide +kernel
theorem dX3_marksSpread_41 : decode cX3_marksSpread 41 = .ok (.iaload, 1) := by decide +kernel
theorem dX3_marksSpread_42 : decode cX3_marksSpread 42 = .ok (.iconst 1, 1) := by decide +kernel
theorem dX3_marksSpread_43 : decode cX3_marksSpread 43 = .ok (.bastore, 1) := by decide +kernel
theorem dX3_marksSpread_44 : decode cX3_marksSpread 44 = .ok (.iinc 4 1, 3) := by decide +kernel
theorem dX3_marksSpread_47 : decode cX3_marksSpread 47 = .ok (.goto (-34), 3) := by decide +kernel
theorem dX3_marksSpread_50 : decode cX3_marksSpread 50 = .ok (.iinc 3 1, 3) := by decide +kernel
theorem dX3_marksSpread_53 : decode cX3_marksSpread 53 = .ok (.goto (-51), 3) := by decide +kernel
theorem dX3_marksSpread_56 : decode cX3_marksSpread 56 = .ok (.iconst 0, 1) := by decide +kernel
theorem dX3_marksSpread_57 : decode cX3_marksSpread 57 = .ok (.istore_n 3, 1) := by decide +kernel
theorem dX3_marksSpread_58 : decode cX3_marksSpread 58 = .ok (.iload_n 3, 1) := by decide +kernel
theorem dX3_marksSpread_59 : decode cX3_marksSpread 59 = .ok (.aload_n 0, 1) := by decide +kernel
theorem dX3_marksSpread_60 : decode cX3_marksSpread 60 = .ok (.getfield 43, 3) := by decide +kernel
theorem dX3_marksSpread_63 : decode cX3_marksSpread 63 = .ok (.if_icmp .ge 20, 3) := by decide +kernel
theorem dX3_marksSpread_66 : decode cX3_marksSpread 66 = .ok (.aload_n 0, 1) := by decide +kernel
theorem dX3_marksSpread_67 : decode cX3_marksSpread 67 = .ok (.getfield 40, 3) := by decide +kernel
theorem dX3_marksSpread_70 : decode cX3_marksSpread 70 = .ok (.iload_n 3, 1) := by decide +kernel
theorem dX3_marksSpread_71 : decode cX3_marksSpread 71 = .ok (.baload, 1) := by decide +kernel
theorem dX3_marksSpread_72 : decode cX3_marksSpread 72 = .ok (.ifCond .ne 5, 3) := by decide +kernel
theorem dX3_marksSpread_75 : decode cX3_marksSpread 75 = .ok (.iconst 0, 1) := by decide +kernel
theorem dX3_marksSpread_76 : decode cX3_marksSpread 76 = .ok (.ireturn, 1) := by decide +kernel
theorem dX3_marksSpread_77 : decode cX3_marksSpread 77 = .ok (.iinc 3 1, 3) := by decide +kernel
theorem dX3_marksSpread_80 : decode cX3_marksSpread 80 = .ok (.goto (-22), 3) := by decide +kernel
theorem dX3_marksSpread_83 : decode cX3_marksSpread 83 = .ok (.iconst 1, 1) := by decide +kernel
theorem dX3_marksSpread_84 : decode cX3_marksSpread 84 = .ok (.ireturn, 1) := by decide +kernel
def L_X3_marksSpread_a_13 (r : Nat) (b3 : Int32) (k : Hp → Option (Int32 × Hp)) : Nat → Int32 → Hp → Option (Int32 × Hp)
  | 0, _, _ => none
  | n + 1, x4, H => if (gI H (r + 2) 1 11) ≤ x4 then k H else gd x4 61 (gd (gI H (r + 2) 13 (Int32.toNatClampNeg x4)) 20 (if (gI H (r + 2) 17 (Int32.toNatClampNeg (gI H (r + 2) 13 (Int32.toNatClampNeg x4)))) = 0 then vl (x4 + (1 : Int32)) (fun (v4 : Int32) => L_X3_marksSpread_a_13 r b3 k n v4 H) else gd x4 61 (gd (gI H (r + 2) 14 (Int32.toNatClampNeg x4)) 20 (hl (sI H (r + 2) 17 (Int32.toNatClampNeg (gI H (r + 2) 14 (Int32.toNatClampNeg x4))) (vp_nar .boolean 1)) (fun (H5 : Hp) => vl (x4 + (1 : Int32)) (fun (v6 : Int32) => L_X3_marksSpread_a_13 r b3 k n v6 H5))))))
set_option maxRecDepth 100000 in
set_option maxHeartbeats 4000000 in
theorem sL_X3_marksSpread_a_13 {p : Program} {l : Launch} {e : Env} {s : State} {m : MethodId} {args : Array Value} {below : List Frame} {meth : Method} {c : Code} {A : Nat → Prop} {D : va_G} {K4 : kQ} {ad : Nat → Nat → Nat} {nr : Nat} {r : Nat} {b3 : Int32} {k : Hp → Option (Int32 × Hp)} {res : Int32 × Hp} (hC : Cx p s m args c A s.heap D K4 5 RX3 cX3_marksSpread) (hret : meth.sig.returnType = (some .boolean) ∧ meth.locks = false) (hr_r : r < nr) (hk : ∀ (H : Hp), k H = some res → V p l e ({ frames := 0, cells := 0, slots := 0, locals := 0 }) s m args below meth c A s.heap (QI below args s A D K4 ad nr res) D K4 ad nr 5 50 [(0, .ref (ad (r + 2) 1)), (1, .ref (ad (r + 2) 13)), (2, .ref (ad (r + 2) 14)), (3, .int b3)] [] H) : ∀ (n : Nat) (x4 : Int32) (H : Hp), L_X3_marksSpread_a_13 r b3 k n x4 H = some res → V p l e ({ frames := 0, cells := 0, slots := 0, locals := 0 }) s m args below meth c A s.heap (QI below args s A D K4 ad nr res) D K4 ad nr 5 13 [(0, .ref (ad (r + 2) 1)), (1, .ref (ad (r + 2) 13)), (2, .ref (ad (r + 2) 14)), (3, .int b3), (4, .int x4)] [] H := by
  intro n
  induction n with
  | zero => intro x4 H h; exact nomatch (show (none : Option (Int32 × Hp)) = some res from h)
  | succ n ih =>
    intro x4 H h
    rw [L_X3_marksSpread_a_13] at h
    refine V_iload hC 4 dX3_marksSpread_13 rfl ?_
    refine V_aload_n hC 0 dX3_marksSpread_15 rfl ?_
    refine V_getI (g := (r + 2)) (k := 1) hC 3 11 fl_X3_47 (okR hr_r rfl) rfl rfl dX3_marksSpread_16 ?_
    refine V_icmp_ge (tgt := 50) hC dX3_marksSpread_19 (by decide) (fun c2 => ?_) (fun c2 => ?_)
    · have h := it_pos c2 h
      refine V_lv (lv' := [(0, .ref (ad (r + 2) 1)), (1, .ref (ad (r + 2) 13)), (2, .ref (ad (r + 2) 14)), (3, .int b3)]) [0, 1, 2, 3] rfl ?_
      exact hk H h
    · have h := it_neg c2 h
      refine V_aload_n hC 0 dX3_marksSpread_22 rfl ?_
      refine V_getR (g := (r + 2)) (k := 1) (g' := (r + 2)) (k' := 17) hC 3 9 fl_X3_40 (okR hr_r rfl) rfl rfl rfl dX3_marksSpread_23 ?_
      refine V_aload_n hC 1 dX3_marksSpread_26 rfl ?_
      refine V_iload hC 4 dX3_marksSpread_27 rfl ?_
      obtain ⟨hi, h⟩ := gd_some h
      refine V_iald (g := (r + 2)) (k := 13) hC (okR hr_r rfl) rfl hi dX3_marksSpread_29 ?_
      obtain ⟨hi, h⟩ := gd_some h
      refine V_zald (g := (r + 2)) (k := 17) hC (okR hr_r rfl) rfl hi dX3_marksSpread_30 ?_
      refine V_if_eq (tgt := 44) hC dX3_marksSpread_31 (by decide) (fun c3 => ?_) (fun c3 => ?_)
      · have h := it_pos c3 h
        refine V_vi h (fun v4 hvv4 h => ?_)
        refine V_iinc (v := v4) (lv' := [(4, .int v4), (0, .ref (ad (r + 2) 1)), (1, .ref (ad (r + 2) 13)), (2, .ref (ad (r + 2) 14)), (3, .int b3)]) hC 4 dX3_marksSpread_44 rfl hvv4.symm (Nat.le_of_ble_eq_true rfl) rfl ?_
        refine V_goto (tgt := 13) hC dX3_marksSpread_47 (by decide) ?_
        refine V_lv (lv' := [(0, .ref (ad (r + 2) 1)), (1, .ref (ad (r + 2) 13)), (2, .ref (ad (r + 2) 14)), (3, .int b3), (4, .int v4)]) [1, 2, 3, 4, 0] rfl ?_
        exact ih v4 H h
      · have h := it_neg c3 h
        refine V_aload_n hC 0 dX3_marksSpread_34 rfl ?_
        refine V_getR (g := (r + 2)) (k := 1) (g' := (r + 2)) (k' := 17) hC 3 9 fl_X3_40 (okR hr_r rfl) rfl rfl rfl dX3_marksSpread_35 ?_
        refine V_aload_n hC 2 dX3_marksSpread_38 rfl ?_
        refine V_iload hC 4 dX3_marksSpread_39 rfl ?_
        obtain ⟨hi, h⟩ := gd_some h
        refine V_iald (g := (r + 2)) (k := 14) hC (okR hr_r rfl) rfl hi dX3_marksSpread_41 ?_
        refine V_iconst (v := 1) hC dX3_marksSpread_42 (by decide) ?_
        obtain ⟨hi, h⟩ := gd_some h
        refine V_zast (g := (r + 2)) (k := 17) hC (okR hr_r rfl) rfl hi dX3_marksSpread_43 ?_
        refine V_hl h (fun H5 h => ?_)
        refine V_vi h (fun v6 hvv6 h => ?_)
        refine V_iinc (v := v6) (lv' := [(4, .int v6), (0, .ref (ad (r + 2) 1)), (1, .ref (ad (r + 2) 13)), (2, .ref (ad (r + 2) 14)), (3, .int b3)]) hC 4 dX3_marksSpread_44 rfl hvv6.symm (Nat.le_of_ble_eq_true rfl) rfl ?_
        refine V_goto (tgt := 13) hC dX3_marksSpread_47 (by decide) ?_
        refine V_lv (lv' := [(0, .ref (ad (r + 2) 1)), (1, .ref (ad (r + 2) 13)), (2, .ref (ad (r + 2) 14)), (3, .int b3), (4, .int v6)]) [1, 2, 3, 4, 0] rfl ?_
        exact ih v6 H5 h
def L_X3_marksSpread_a_2 (r : Nat) (k : Hp → Option (Int32 × Hp)) : Nat → Int32 → Hp → Option (Int32 × Hp)
  | 0, _, _ => none
  | n + 1, x3, H => if (gI H (r + 2) 1 10) ≤ x3 then k H else L_X3_marksSpread_a_13 r x3 (fun (H7 : Hp) => vl (x3 + (1 : Int32)) (fun (v8 : Int32) => L_X3_marksSpread_a_2 r k n v8 H7)) FU 0 H
set_option maxRecDepth 100000 in
set_option maxHeartbeats 4000000 in
theorem sL_X3_marksSpread_a_2 {p : Program} {l : Launch} {e : Env} {s : State} {m : MethodId} {args : Array Value} {below : List Frame} {meth : Method} {c : Code} {A : Nat → Prop} {D : va_G} {K4 : kQ} {ad : Nat → Nat → Nat} {nr : Nat} {r : Nat} {k : Hp → Option (Int32 × Hp)} {res : Int32 × Hp} (hC : Cx p s m args c A s.heap D K4 5 RX3 cX3_marksSpread) (hret : meth.sig.returnType = (some .boolean) ∧ meth.locks = false) (hr_r : r < nr) (hk : ∀ (H : Hp), k H = some res → V p l e ({ frames := 0, cells := 0, slots := 0, locals := 0 }) s m args below meth c A s.heap (QI below args s A D K4 ad nr res) D K4 ad nr 5 56 [(0, .ref (ad (r + 2) 1))] [] H) : ∀ (n : Nat) (x3 : Int32) (H : Hp), L_X3_marksSpread_a_2 r k n x3 H = some res → V p l e ({ frames := 0, cells := 0, slots := 0, locals := 0 }) s m args below meth c A s.heap (QI below args s A D K4 ad nr res) D K4 ad nr 5 2 [(0, .ref (ad (r + 2) 1)), (1, .ref (ad (r + 2) 13)), (2, .ref (ad (r + 2) 14)), (3, .int x3)] [] H := by
  intro n
  induction n with
  | zero => intro x3 H h; exact nomatch (show (none : Option (Int32 × Hp)) = some res from h)
  | succ n ih =>
    intro x3 H h
    rw [L_X3_marksSpread_a_2] at h
    refine V_iload_n hC 3 dX3_marksSpread_2 rfl ?_
    refine V_aload_n hC 0 dX3_marksSpread_3 rfl ?_
    refine V_getI (g := (r + 2)) (k := 1) hC 3 10 fl_X3_43 (okR hr_r rfl) rfl rfl dX3_marksSpread_4 ?_
    refine V_icmp_ge (tgt := 56) hC dX3_marksSpread_7 (by decide) (fun c1 => ?_) (fun c1 => ?_)
    · have h := it_pos c1 h
      refine V_lv (lv' := [(0, .ref (ad (r + 2) 1))]) [0] rfl ?_
      exact hk H h
    · have h := it_neg c1 h
      refine V_iconst (v := 0) hC dX3_marksSpread_10 (by decide) ?_
      refine V_istore (lv' := [(4, .int 0), (0, .ref (ad (r + 2) 1)), (1, .ref (ad (r + 2) 13)), (2, .ref (ad (r + 2) 14)), (3, .int x3)]) hC dX3_marksSpread_11 (Nat.le_of_ble_eq_true rfl) rfl ?_
      refine V_lv (lv' := [(0, .ref (ad (r + 2) 1)), (1, .ref (ad (r + 2) 13)), (2, .ref (ad (r + 2) 14)), (3, .int x3), (4, .int 0)]) [1, 2, 3, 4, 0] rfl ?_
      refine sL_X3_marksSpread_a_13 hC hret hr_r (fun H7 h => ?_) _ 0 H h
      refine V_vi h (fun v8 hvv8 h => ?_)
      refine V_iinc (v := v8) (lv' := [(3, .int v8), (0, .ref (ad (r + 2) 1)), (1, .ref (ad (r + 2) 13)), (2, .ref (ad (r + 2) 14))]) hC 3 dX3_marksSpread_50 rfl hvv8.symm (Nat.le_of_ble_eq_true rfl) rfl ?_
      refine V_goto (tgt := 2) hC dX3_marksSpread_53 (by decide) ?_
      refine V_lv (lv' := [(0, .ref (ad (r + 2) 1)), (1, .ref (ad (r + 2) 13)), (2, .ref (ad (r + 2) 14)), (3, .int v8)]) [1, 2, 3, 0] rfl ?_
      exact ih v8 H7 h
def L_X3_marksSpread_a_58 (r : Nat) (k : Hp → Option (Int32 × Hp)) : Nat → Int32 → Hp → Option (Int32 × Hp)
  | 0, _, _ => none
  | n + 1, x3, H => if (gI H (r + 2) 1 10) ≤ x3 then k H else gd x3 20 (if (gI H (r + 2) 17 (Int32.toNatClampNeg x3)) = 0 then some (0, H) else vl (x3 + (1 : Int32)) (fun (v12 : Int32) => L_X3_marksSpread_a_58 r k n v12 H))
set_option maxRecDepth 100000 in
set_option maxHeartbeats 4000000 in
theorem sL_X3_marksSpread_a_58 {p : Program} {l : Launch} {e : Env} {s : State} {m : MethodId} {args : Array Value} {below : List Frame} {meth : Method} {c : Code} {A : Nat → Prop} {D : va_G} {K4 : kQ} {ad : Nat → Nat → Nat} {nr : Nat} {r : Nat} {k : Hp → Option (Int32 × Hp)} {res : Int32 × Hp} (hC : Cx p s m args c A s.heap D K4 5 RX3 cX3_marksSpread) (hret : meth.sig.returnType = (some .boolean) ∧ meth.locks = false) (hr_r : r < nr) (hk : ∀ (H : Hp), k H = some res → V p l e ({ frames := 0, cells := 0, slots := 0, locals := 0 }) s m args below meth c A s.heap (QI below args s A D K4 ad nr res) D K4 ad nr 5 83 [] [] H) : ∀ (n : Nat) (x3 : Int32) (H : Hp), L_X3_marksSpread_a_58 r k n x3 H = some res → V p l e ({ frames := 0, cells := 0, slots := 0, locals := 0 }) s m args below meth c A s.heap (QI below args s A D K4 ad nr res) D K4 ad nr 5 58 [(0, .ref (ad (r + 2) 1)), (3, .int x3)] [] H := by
  intro n
  induction n with
  | zero => intro x3 H h; exact nomatch (show (none : Option (Int32 × Hp)) = some res from h)
  | succ n ih =>
    intro x3 H h
    rw [L_X3_marksSpread_a_58] at h
    refine V_iload_n hC 1 dX3_marksSpread_58 rfl ?_
    refine V_aload_n hC 0 dX3_marksSpread_59 rfl ?_
    refine V_getI (g := (r + 2)) (k := 1) hC 3 10 fl_X3_43 (okR hr_r rfl) rfl rfl dX3_marksSpread_60 ?_
    refine V_icmp_ge (tgt := 83) hC dX3_marksSpread_63 (by decide) (fun c10 => ?_) (fun c10 => ?_)
    · have h := it_pos c10 h
      refine V_lv (lv' := []) [] rfl ?_
      exact hk H h
    · have h := it_neg c10 h
      refine V_aload_n hC 0 dX3_marksSpread_66 rfl ?_
      refine V_getR (g := (r + 2)) (k := 1) (g' := (r + 2)) (k' := 17) hC 3 9 fl_X3_40 (okR hr_r rfl) rfl rfl rfl dX3_marksSpread_67 ?_
      refine V_iload_n hC 1 dX3_marksSpread_70 rfl ?_
      obtain ⟨hi, h⟩ := gd_some h
      refine V_zald (g := (r + 2)) (k := 17) hC (okR hr_r rfl) rfl hi dX3_marksSpread_71 ?_
      refine V_if_ne (tgt := 77) hC dX3_marksSpread_72 (by decide) (fun c11 => ?_) (fun c11 => ?_)
      · have h := it_neg c11 h
        refine V_vi h (fun v12 hvv12 h => ?_)
        refine V_iinc (v := v12) (lv' := [(3, .int v12), (0, .ref (ad (r + 2) 1))]) hC 1 dX3_marksSpread_77 rfl hvv12.symm (Nat.le_of_ble_eq_true rfl) rfl ?_
        refine V_goto (tgt := 58) hC dX3_marksSpread_80 (by decide) ?_
        refine V_lv (lv' := [(0, .ref (ad (r + 2) 1)), (3, .int v12)]) [1, 0] rfl ?_
        exact ih v12 H h
      · have h := it_pos c11 h
        refine V_iconst (v := 0) hC dX3_marksSpread_75 (by decide) ?_
        exact V_zret hC hret (by decide) dX3_marksSpread_76 h
def f_X3_marksSpread_a (r : Nat) (H : Hp) : Option (Int32 × Hp) := L_X3_marksSpread_a_2 r (fun (H9 : Hp) => L_X3_marksSpread_a_58 r (fun (H13 : Hp) => some (1, H13)) FU 0 H9) FU 0 H
set_option maxRecDepth 100000 in
set_option maxHeartbeats 4000000 in
theorem s_X3_marksSpread_a {p : Program} {l : Launch} {e : Env} {s : State} {m : MethodId} {args : Array Value} {below : List Frame} {meth : Method} {c : Code} {A : Nat → Prop} {D : va_G} {K4 : kQ} {ad : Nat → Nat → Nat} {nr : Nat} {r : Nat} {H : Hp} {res : Int32 × Hp} (hC : Cx p s m args c A s.heap D K4 5 RX3 cX3_marksSpread) (hret : meth.sig.returnType = (some .boolean) ∧ meth.locks = false) (hr_r : r < nr) (h : f_X3_marksSpread_a r H = some res) : V p l e ({ frames := 0, cells := 0, slots := 0, locals := 0 }) s m args below meth c A s.heap (QI below args s A D K4 ad nr res) D K4 ad nr 5 0 [(0, .ref (ad (r + 2) 1)), (1, .ref (ad (r + 2) 13)), (2, .ref (ad (r + 2) 14))] [] H := by
  unfold f_X3_marksSpread_a at h
  refine V_iconst (v := 0) hC dX3_marksSpread_0 (by decide) ?_
  refine V_istore_n (lv' := [(3, .int 0), (0, .ref (ad (r + 2) 1)), (1, .ref (ad (r + 2) 13)), (2, .ref (ad (r + 2) 14))]) hC dX3_marksSpread_1 (Nat.le_of_ble_eq_true rfl) rfl ?_
  refine V_lv (lv' := [(0, .ref (ad (r + 2) 1)), (1, .ref (ad (r + 2) 13)), (2, .ref (ad (r + 2) 14)), (3, .int 0)]) [1, 2, 3, 0] rfl ?_
  refine sL_X3_marksSpread_a_2 hC hret hr_r (fun H9 h => ?_) _ 0 H h
  refine V_iconst (v := 0) hC dX3_marksSpread_56 (by decide) ?_
  refine V_istore_n (lv' := [(3, .int 0), (0, .ref (ad (r + 2) 1))]) hC dX3_marksSpread_57 (Nat.le_of_ble_eq_true rfl) rfl ?_
  refine V_lv (lv' := [(0, .ref (ad (r + 2) 1)), (3, .int 0)]) [1, 0] rfl ?_
  refine sL_X3_marksSpread_a_58 hC hret hr_r (fun H13 h => ?_) _ 0 H9 h
  refine V_iconst (v := 1) hC dX3_marksSpread_83 (by decide) ?_
  exact V_zret hC hret (by decide) dX3_marksSpread_84 h
theorem c_X3_marksSpread_a (l : Launch) {nr : Nat} {r : Nat} (hr_r : r < nr) {H : Hp} {x : Int32} {H' : Hp} (h : f_X3_marksSpread_a r H = some (x, H')) : CI l nr yX3_marksSpread cX3_marksSpread 5 (some .boolean) 0 0 (fun ad => [.ref (ad (r + 2) 1), .ref (ad (r + 2) 13), .ref (ad (r + 2) 14)]) H x H' := by
  intro D K4 ad sz
  refine Met.ofV (by decide) (Nat.le_of_ble_eq_true rfl) ?_
  intro p e s m args below meth c hC hret hsz
  subst hsz
  exact s_X3_marksSpread_a hC hret hr_r h
def L_X3_marksSpread_b_13 (r : Nat) (b3 : Int32) (k : Hp → Option (Int32 × Hp)) : Nat → Int32 → Hp → Option (Int32 × Hp)
  | 0, _, _ => none
  | n + 1, x4, H => if (gI H (r + 2) 1 11) ≤ x4 then k H else gd x4 61 (gd (gI H (r + 2) 14 (Int32.toNatClampNeg x4)) 20 (if (gI H (r + 2) 17 (Int32.toNatClampNeg (gI H (r + 2) 14 (Int32.toNatClampNeg x4)))) = 0 then vl (x4 + (1 : Int32)) (fun (v4 : Int32) => L_X3_marksSpread_b_13 r b3 k n v4 H) else gd x4 61 (gd (gI H (r + 2) 13 (Int32.toNatClampNeg x4)) 20 (hl (sI H (r + 2) 17 (Int32.toNatClampNeg (gI H (r + 2) 13 (Int32.toNatClampNeg x4))) (vp_nar .boolean 1)) (fun (H5 : Hp) => vl (x4 + (1 : Int32)) (fun (v6 : Int32) => L_X3_marksSpread_b_13 r b3 k n v6 H5))))))
set_option maxRecDepth 100000 in
set_option maxHeartbeats 4000000 in
theorem sL_X3_marksSpread_b_13 {p : Program} {l : Launch} {e : Env} {s : State} {m : MethodId} {args : Array Value} {below : List Frame} {meth : Method} {c : Code} {A : Nat → Prop} {D : va_G} {K4 : kQ} {ad : Nat → Nat → Nat} {nr : Nat} {r : Nat} {b3 : Int32} {k : Hp → Option (Int32 × Hp)} {res : Int32 × Hp} (hC : Cx p s m args c A s.heap D K4 5 RX3 cX3_marksSpread) (hret : meth.sig.returnType = (some .boolean) ∧ meth.locks = false) (hr_r : r < nr) (hk : ∀ (H : Hp), k H = some res → V p l e ({ frames := 0, cells := 0, slots := 0, locals := 0 }) s m args below meth c A s.heap (QI below args s A D K4 ad nr res) D K4 ad nr 5 50 [(0, .ref (ad (r + 2) 1)), (1, .ref (ad (r + 2) 14)), (2, .ref (ad (r + 2) 13)), (3, .int b3)] [] H) : ∀ (n : Nat) (x4 : Int32) (H : Hp), L_X3_marksSpread_b_13 r b3 k n x4 H = some res → V p l e ({ frames := 0, cells := 0, slots := 0, locals := 0 }) s m args below meth c A s.heap (QI below args s A D K4 ad nr res) D K4 ad nr 5 13 [(0, .ref (ad (r + 2) 1)), (1, .ref (ad (r + 2) 14)), (2, .ref (ad (r + 2) 13)), (3, .int b3), (4, .int x4)] [] H := by
  intro n
  induction n with
  | zero => intro x4 H h; exact nomatch (show (none : Option (Int32 × Hp)) = some res from h)
  | succ n ih =>
    intro x4 H h
    rw [L_X3_marksSpread_b_13] at h
    refine V_iload hC 4 dX3_marksSpread_13 rfl ?_
    refine V_aload_n hC 0 dX3_marksSpread_15 rfl ?_
    refine V_getI (g := (r + 2)) (k := 1) hC 3 11 fl_X3_47 (okR hr_r rfl) rfl rfl dX3_marksSpread_16 ?_
    refine V_icmp_ge (tgt := 50) hC dX3_marksSpread_19 (by decide) (fun c2 => ?_) (fun c2 => ?_)
    · have h := it_pos c2 h
      refine V_lv (lv' := [(0, .ref (ad (r + 2) 1)), (1, .ref (ad (r + 2) 14)), (2, .ref (ad (r + 2) 13)), (3, .int b3)]) [0, 1, 2, 3] rfl ?_
      exact hk H h
    · have h := it_neg c2 h
      refine V_aload_n hC 0 dX3_marksSpread_22 rfl ?_
      refine V_getR (g := (r + 2)) (k := 1) (g' := (r + 2)) (k' := 17) hC 3 9 fl_X3_40 (okR hr_r rfl) rfl rfl rfl dX3_marksSpread_23 ?_
      refine V_aload_n hC 1 dX3_marksSpread_26 rfl ?_
      refine V_iload hC 4 dX3_marksSpread_27 rfl ?_
      obtain ⟨hi, h⟩ := gd_some h
      refine V_iald (g := (r + 2)) (k := 14) hC (okR hr_r rfl) rfl hi dX3_marksSpread_29 ?_
      obtain ⟨hi, h⟩ := gd_some h
      refine V_zald (g := (r + 2)) (k := 17) hC (okR hr_r rfl) rfl hi dX3_marksSpread_30 ?_
      refine V_if_eq (tgt := 44) hC dX3_marksSpread_31 (by decide) (fun c3 => ?_) (fun c3 => ?_)
      · have h := it_pos c3 h
        refine V_vi h (fun v4 hvv4 h => ?_)
        refine V_iinc (v := v4) (lv' := [(4, .int v4), (0, .ref (ad (r + 2) 1)), (1, .ref (ad (r + 2) 14)), (2, .ref (ad (r + 2) 13)), (3, .int b3)]) hC 4 dX3_marksSpread_44 rfl hvv4.symm (Nat.le_of_ble_eq_true rfl) rfl ?_
        refine V_goto (tgt := 13) hC dX3_marksSpread_47 (by decide) ?_
        refine V_lv (lv' := [(0, .ref (ad (r + 2) 1)), (1, .ref (ad (r + 2) 14)), (2, .ref (ad (r + 2) 13)), (3, .int b3), (4, .int v4)]) [1, 2, 3, 4, 0] rfl ?_
        exact ih v4 H h
      · have h := it_neg c3 h
        refine V_aload_n hC 0 dX3_marksSpread_34 rfl ?_
        refine V_getR (g := (r + 2)) (k := 1) (g' := (r + 2)) (k' := 17) hC 3 9 fl_X3_40 (okR hr_r rfl) rfl rfl rfl dX3_marksSpread_35 ?_
        refine V_aload_n hC 2 dX3_marksSpread_38 rfl ?_
        refine V_iload hC 4 dX3_marksSpread_39 rfl ?_
        obtain ⟨hi, h⟩ := gd_some h
        refine V_iald (g := (r + 2)) (k := 13) hC (okR hr_r rfl) rfl hi dX3_marksSpread_41 ?_
        refine V_iconst (v := 1) hC dX3_marksSpread_42 (by decide) ?_
        obtain ⟨hi, h⟩ := gd_some h
        refine V_zast (g := (r + 2)) (k := 17) hC (okR hr_r rfl) rfl hi dX3_marksSpread_43 ?_
        refine V_hl h (fun H5 h => ?_)
        refine V_vi h (fun v6 hvv6 h => ?_)
        refine V_iinc (v := v6) (lv' := [(4, .int v6), (0, .ref (ad (r + 2) 1)), (1, .ref (ad (r + 2) 14)), (2, .ref (ad (r + 2) 13)), (3, .int b3)]) hC 4 dX3_marksSpread_44 rfl hvv6.symm (Nat.le_of_ble_eq_true rfl) rfl ?_
        refine V_goto (tgt := 13) hC dX3_marksSpread_47 (by decide) ?_
        refine V_lv (lv' := [(0, .ref (ad (r + 2) 1)), (1, .ref (ad (r + 2) 14)), (2, .ref (ad (r + 2) 13)), (3, .int b3), (4, .int v6)]) [1, 2, 3, 4, 0] rfl ?_
        exact ih v6 H5 h
def L_X3_marksSpread_b_2 (r : Nat) (k : Hp → Option (Int32 × Hp)) : Nat → Int32 → Hp → Option (Int32 × Hp)
  | 0, _, _ => none
  | n + 1, x3, H => if (gI H (r + 2) 1 10) ≤ x3 then k H else L_X3_marksSpread_b_13 r x3 (fun (H7 : Hp) => vl (x3 + (1 : Int32)) (fun (v8 : Int32) => L_X3_marksSpread_b_2 r k n v8 H7)) FU 0 H
set_option maxRecDepth 100000 in
set_option maxHeartbeats 4000000 in
theorem sL_X3_marksSpread_b_2 {p : Program} {l : Launch} {e : Env} {s : State} {m : MethodId} {args : Array Value} {below : List Frame} {meth : Method} {c : Code} {A : Nat → Prop} {D : va_G} {K4 : kQ} {ad : Nat → Nat → Nat} {nr : Nat} {r : Nat} {k : Hp → Option (Int32 × Hp)} {res : Int32 × Hp} (hC : Cx p s m args c A s.heap D K4 5 RX3 cX3_marksSpread) (hret : meth.sig.returnType = (some .boolean) ∧ meth.locks = false) (hr_r : r < nr) (hk : ∀ (H : Hp), k H = some res → V p l e ({ frames := 0, cells := 0, slots := 0, locals := 0 }) s m args below meth c A s.heap (QI below args s A D K4 ad nr res) D K4 ad nr 5 56 [(0, .ref (ad (r + 2) 1))] [] H) : ∀ (n : Nat) (x3 : Int32) (H : Hp), L_X3_marksSpread_b_2 r k n x3 H = some res → V p l e ({ frames := 0, cells := 0, slots := 0, locals := 0 }) s m args below meth c A s.heap (QI below args s A D K4 ad nr res) D K4 ad nr 5 2 [(0, .ref (ad (r + 2) 1)), (1, .ref (ad (r + 2) 14)), (2, .ref (ad (r + 2) 13)), (3, .int x3)] [] H := by
  intro n
  induction n with
  | zero => intro x3 H h; exact nomatch (show (none : Option (Int32 × Hp)) = some res from h)
  | succ n ih =>
    intro x3 H h
    rw [L_X3_marksSpread_b_2] at h
    refine V_iload_n hC 3 dX3_marksSpread_2 rfl ?_
    refine V_aload_n hC 0 dX3_marksSpread_3 rfl ?_
    refine V_getI (g := (r + 2)) (k := 1) hC 3 10 fl_X3_43 (okR hr_r rfl) rfl rfl dX3_marksSpread_4 ?_
    refine V_icmp_ge (tgt := 56) hC dX3_marksSpread_7 (by decide) (fun c1 => ?_) (fun c1 => ?_)
    · have h := it_pos c1 h
      refine V_lv (lv' := [(0, .ref (ad (r + 2) 1))]) [0] rfl ?_
      exact hk H h
    · have h := it_neg c1 h
      refine V_iconst (v := 0) hC dX3_marksSpread_10 (by decide) ?_
      refine V_istore (lv' := [(4, .int 0), (0, .ref (ad (r + 2) 1)), (1, .ref (ad (r + 2) 14)), (2, .ref (ad (r + 2) 13)), (3, .int x3)]) hC dX3_marksSpread_11 (Nat.le_of_ble_eq_true rfl) rfl ?_
      refine V_lv (lv' := [(0, .ref (ad (r + 2) 1)), (1, .ref (ad (r + 2) 14)), (2, .ref (ad (r + 2) 13)), (3, .int x3), (4, .int 0)]) [1, 2, 3, 4, 0] rfl ?_
      refine sL_X3_marksSpread_b_13 hC hret hr_r (fun H7 h => ?_) _ 0 H h
      refine V_vi h (fun v8 hvv8 h => ?_)
      refine V_iinc (v := v8) (lv' := [(3, .int v8), (0, .ref (ad (r + 2) 1)), (1, .ref (ad (r + 2) 14)), (2, .ref (ad (r + 2) 13))]) hC 3 dX3_marksSpread_50 rfl hvv8.symm (Nat.le_of_ble_eq_true rfl) rfl ?_
      refine V_goto (tgt := 2) hC dX3_marksSpread_53 (by decide) ?_
      refine V_lv (lv' := [(0, .ref (ad (r + 2) 1)), (1, .ref (ad (r + 2) 14)), (2, .ref (ad (r + 2) 13)), (3, .int v8)]) [1, 2, 3, 0] rfl ?_
      exact ih v8 H7 h
def L_X3_marksSpread_b_58 (r : Nat) (k : Hp → Option (Int32 × Hp)) : Nat → Int32 → Hp → Option (Int32 × Hp)
  | 0, _, _ => none
  | n + 1, x3, H => if (gI H (r + 2) 1 10) ≤ x3 then k H else gd x3 20 (if (gI H (r + 2) 17 (Int32.toNatClampNeg x3)) = 0 then some (0, H) else vl (x3 + (1 : Int32)) (fun (v12 : Int32) => L_X3_marksSpread_b_58 r k n v12 H))
set_option maxRecDepth 100000 in
set_option maxHeartbeats 4000000 in
theorem sL_X3_marksSpread_b_58 {p : Program} {l : Launch} {e : Env} {s : State} {m : MethodId} {args : Array Value} {below : List Frame} {meth : Method} {c : Code} {A : Nat → Prop} {D : va_G} {K4 : kQ} {ad : Nat → Nat → Nat} {nr : Nat} {r : Nat} {k : Hp → Option (Int32 × Hp)} {res : Int32 × Hp} (hC : Cx p s m args c A s.heap D K4 5 RX3 cX3_marksSpread) (hret : meth.sig.returnType = (some .boolean) ∧ meth.locks = false) (hr_r : r < nr) (hk : ∀ (H : Hp), k H = some res → V p l e ({ frames := 0, cells := 0, slots := 0, locals := 0 }) s m args below meth c A s.heap (QI below args s A D K4 ad nr res) D K4 ad nr 5 83 [] [] H) : ∀ (n : Nat) (x3 : Int32) (H : Hp), L_X3_marksSpread_b_58 r k n x3 H = some res → V p l e ({ frames := 0, cells := 0, slots := 0, locals := 0 }) s m args below meth c A s.heap (QI below args s A D K4 ad nr res) D K4 ad nr 5 58 [(0, .ref (ad (r + 2) 1)), (3, .int x3)] [] H := by
  intro n
  induction n with
  | zero => intro x3 H h; exact nomatch (show (none : Option (Int32 × Hp)) = some res from h)
  | succ n ih =>
    intro x3 H h
    rw [L_X3_marksSpread_b_58] at h
    refine V_iload_n hC 1 dX3_marksSpread_58 rfl ?_
    refine V_aload_n hC 0 dX3_marksSpread_59 rfl ?_
    refine V_getI (g := (r + 2)) (k := 1) hC 3 10 fl_X3_43 (okR hr_r rfl) rfl rfl dX3_marksSpread_60 ?_
    refine V_icmp_ge (tgt := 83) hC dX3_marksSpread_63 (by decide) (fun c10 => ?_) (fun c10 => ?_)
    · have h := it_pos c10 h
      refine V_lv (lv' := []) [] rfl ?_
      exact hk H h
    · have h := it_neg c10 h
      refine V_aload_n hC 0 dX3_marksSpread_66 rfl ?_
      refine V_getR (g := (r + 2)) (k := 1) (g' := (r + 2)) (k' := 17) hC 3 9 fl_X3_40 (okR hr_r rfl) rfl rfl rfl dX3_marksSpread_67 ?_
      refine V_iload_n hC 1 dX3_marksSpread_70 rfl ?_
      obtain ⟨hi, h⟩ := gd_some h
      refine V_zald (g := (r + 2)) (k := 17) hC (okR hr_r rfl) rfl hi dX3_marksSpread_71 ?_
      refine V_if_ne (tgt := 77) hC dX3_marksSpread_72 (by decide) (fun c11 => ?_) (fun c11 => ?_)
      · have h := it_neg c11 h
        refine V_vi h (fun v12 hvv12 h => ?_)
        refine V_iinc (v := v12) (lv' := [(3, .int v12), (0, .ref (ad (r + 2) 1))]) hC 1 dX3_marksSpread_77 rfl hvv12.symm (Nat.le_of_ble_eq_true rfl) rfl ?_
        refine V_goto (tgt := 58) hC dX3_marksSpread_80 (by decide) ?_
        refine V_lv (lv' := [(0, .ref (ad (r + 2) 1)), (3, .int v12)]) [1, 0] rfl ?_
        exact ih v12 H h
      · have h := it_pos c11 h
        refine V_iconst (v := 0) hC dX3_marksSpread_75 (by decide) ?_
        exact V_zret hC hret (by decide) dX3_marksSpread_76 h
def f_X3_marksSpread_b (r : Nat) (H : Hp) : Option (Int32 × Hp) := L_X3_marksSpread_b_2 r (fun (H9 : Hp) => L_X3_marksSpread_b_58 r (fun (H13 : Hp) => some (1, H13)) FU 0 H9) FU 0 H
set_option maxRecDepth 100000 in
set_option maxHeartbeats 4000000 in
theorem s_X3_marksSpread_b {p : Program} {l : Launch} {e : Env} {s : State} {m : MethodId} {args : Array Value} {below : List Frame} {meth : Method} {c : Code} {A : Nat → Prop} {D : va_G} {K4 : kQ} {ad : Nat → Nat → Nat} {nr : Nat} {r : Nat} {H : Hp} {res : Int32 × Hp} (hC : Cx p s m args c A s.heap D K4 5 RX3 cX3_marksSpread) (hret : meth.sig.returnType = (some .boolean) ∧ meth.locks = false) (hr_r : r < nr) (h : f_X3_marksSpread_b r H = some res) : V p l e ({ frames := 0, cells := 0, slots := 0, locals := 0 }) s m args below meth c A s.heap (QI below args s A D K4 ad nr res) D K4 ad nr 5 0 [(0, .ref (ad (r + 2) 1)), (1, .ref (ad (r + 2) 14)), (2, .ref (ad (r + 2) 13))] [] H := by
  unfold f_X3_marksSpread_b at h
  refine V_iconst (v := 0) hC dX3_marksSpread_0 (by decide) ?_
  refine V_istore_n (lv' := [(3, .int 0), (0, .ref (ad (r + 2) 1)), (1, .ref (ad (r + 2) 14)), (2, .ref (ad (r + 2) 13))]) hC dX3_marksSpread_1 (Nat.le_of_ble_eq_true rfl) rfl ?_
  refine V_lv (lv' := [(0, .ref (ad (r + 2) 1)), (1, .ref (ad (r + 2) 14)), (2, .ref (ad (r + 2) 13)), (3, .int 0)]) [1, 2, 3, 0] rfl ?_
  refine sL_X3_marksSpread_b_2 hC hret hr_r (fun H9 h => ?_) _ 0 H h
  refine V_iconst (v := 0) hC dX3_marksSpread_56 (by decide) ?_
  refine V_istore_n (lv' := [(3, .int 0), (0, .ref (ad (r + 2) 1))]) hC dX3_marksSpread_57 (Nat.le_of_ble_eq_true rfl) rfl ?_
  refine V_lv (lv' := [(0, .ref (ad (r + 2) 1)), (3, .int 0)]) [1, 0] rfl ?_
  refine sL_X3_marksSpread_b_58 hC hret hr_r (fun H13 h => ?_) _ 0 H9 h
  refine V_iconst (v := 1) hC dX3_marksSpread_83 (by decide) ?_
  exact V_zret hC hret (by decide) dX3_marksSpread_84 h
theorem c_X3_marksSpread_b (l : Launch) {nr : Nat} {r : Nat} (hr_r : r < nr) {H : Hp} {x : Int32} {H' : Hp} (h : f_X3_marksSpread_b r H = some (x, H')) : CI l nr yX3_marksSpread cX3_marksSpread 5 (some .boolean) 0 0 (fun ad => [.ref (ad (r + 2) 1), .ref (ad (r + 2) 14), .ref (ad (r + 2) 13)]) H x H' := by
  intro D K4 ad sz
  refine Met.ofV (by decide) (Nat.le_of_ble_eq_true rfl) ?_
  intro p e s m args below meth c hC hret hsz
  subst hsz
  exact s_X3_marksSpread_b hC hret hr_r h
theorem dX3_allReached_0 : decode cX3_allReached 0 = .ok (.iconst 0, 1) := by decide +kernel
theorem dX3_allReached_1 : decode cX3_allReached 1 = .ok (.istore_n 1, 1) := by decide +kernel
theorem dX3_allReached_2 : decode cX3_allReached 2 = .ok (.iload_n 1, 1) := by decide +kernel
theorem dX3_allReached_3 : decode cX3_allReached 3 = .ok (.aload_n 0, 1) := by decide +kernel
theorem dX3_allReached_4 : decode cX3_allReached 4 = .ok (.getfield 43, 3) := by decide +kernel
theorem dX3_allReached_7 : decode cX3_allReached 7 = .ok (.if_icmp .ge 24, 3) := by decide +kernel
theorem dX3_allReached_10 : decode cX3_allReached 10 = .ok (.aload_n 0, 1) := by decide +kernel
theorem dX3_allReached_11 : decode cX3_allReached 11 = .ok (.getfield 40, 3) := by decide +kernel
theorem dX3_allReached_14 : decode cX3_allReached 14 = .ok (.iload_n 1, 1) := by decide +kernel
theorem dX3_allReached_15 : decode cX3_allReached 15 = .ok (.iload_n 1, 1) := by decide +kernel
theorem dX3_allReached_16 : decode cX3_allReached 16 = .ok (.ifCond .ne 7, 3) := by decide +kernel
theorem dX3_allReached_19 : decode cX3_allReached 19 = .ok (.iconst 1, 1) := by decide +kernel
theorem dX3_allReached_20 : decode cX3_allReached 20 = .ok (.goto 4, 3) := by decide +kernel
theorem dX3_allReached_23 : decode cX3_allReached 23 = .ok (.iconst 0, 1) := by decide +kernel
theorem dX3_allReached_24 : decode cX3_allReached 24 = .ok (.bastore, 1) := by decide +kernel
theorem dX3_allReached_25 : decode cX3_allReached 25 = .ok (.iinc 1 1, 3) := by decide +kernel
theorem dX3_allReached_28 : decode cX3_allReached 28 = .ok (.goto (-26), 3) := by decide +kernel
theorem dX3_allReached_31 : decode cX3_allReached 31 = .ok (.aload_n 0, 1) := by decide +kernel
theorem dX3_allReached_32 : decode cX3_allReached 32 = .ok (.aload_n 0, 1) := by decide +kernel
theorem dX3_allReached_33 : decode cX3_allReached 33 = .ok (.getfield 27, 3) := by decide +kernel
theorem dX3_allReached_36 : decode cX3_allReached 36 = .ok (.aload_n 0, 1) := by decide +kernel
theorem dX3_allReached_37 : decode cX3_allReached 37 = .ok (.getfield 30, 3) := by decide +kernel
theorem dX3_allReached_40 : decode cX3_allReached 40 = .ok (.invokevirtual 67, 3) := by decide +kernel
theorem dX3_allReached_43 : decode cX3_allReached 43 = .ok (.ireturn, 1) := by decide +kernel
def L_X3_allReached_2 (r : Nat) (k : Hp → Option (Int32 × Hp)) : Nat → Int32 → Hp → Option (Int32 × Hp)
  | 0, _, _ => none
  | n + 1, x1, H => if (gI H (r + 2) 1 10) ≤ x1 then k H else if x1 = 0 then gd x1 20 (hl (sI H (r + 2) 17 (Int32.toNatClampNeg x1) (vp_nar .boolean 1)) (fun (H5 : Hp) => vl (x1 + (1 : Int32)) (fun (v6 : Int32) => L_X3_allReached_2 r k n v6 H5))) else gd x1 20 (hl (sI H (r + 2) 17 (Int32.toNatClampNeg x1) (vp_nar .boolean 0)) (fun (H3 : Hp) => vl (x1 + (1 : Int32)) (fun (v4 : Int32) => L_X3_allReached_2 r k n v4 H3)))
set_option maxRecDepth 100000 in
set_option maxHeartbeats 4000000 in
theorem sL_X3_allReached_2 {p : Program} {l : Launch} {e : Env} {s : State} {m : MethodId} {args : Array Value} {below : List Frame} {meth : Method} {c : Code} {A : Nat → Prop} {D : va_G} {K4 : kQ} {ad : Nat → Nat → Nat} {nr : Nat} {r : Nat} {k : Hp → Option (Int32 × Hp)} {res : Int32 × Hp} (hC : Cx p s m args c A s.heap D K4 2 RX3 cX3_allReached) (hret : meth.sig.returnType = (some .boolean) ∧ meth.locks = false) (hr_r : r < nr) (hk : ∀ (H : Hp), k H = some res → V p l e ({ frames := 1, cells := 0, slots := 0, locals := 24 }) s m args below meth c A s.heap (QI below args s A D K4 ad nr res) D K4 ad nr 2 31 [(0, .ref (ad (r + 2) 1))] [] H) : ∀ (n : Nat) (x1 : Int32) (H : Hp), L_X3_allReached_2 r k n x1 H = some res → V p l e ({ frames := 1, cells := 0, slots := 0, locals := 24 }) s m args below meth c A s.heap (QI below args s A D K4 ad nr res) D K4 ad nr 2 2 [(0, .ref (ad (r + 2) 1)), (1, .int x1)] [] H := by
  intro n
  induction n with
  | zero => intro x1 H h; exact nomatch (show (none : Option (Int32 × Hp)) = some res from h)
  | succ n ih =>
    intro x1 H h
    rw [L_X3_allReached_2] at h
    refine V_iload_n hC 1 dX3_allReached_2 rfl ?_
    refine V_aload_n hC 0 dX3_allReached_3 rfl ?_
    refine V_getI (g := (r + 2)) (k := 1) hC 3 10 fl_X3_43 (okR hr_r rfl) rfl rfl dX3_allReached_4 ?_
    refine V_icmp_ge (tgt := 31) hC dX3_allReached_7 (by decide) (fun c1 => ?_) (fun c1 => ?_)
    · have h := it_pos c1 h
      refine V_lv (lv' := [(0, .ref (ad (r + 2) 1))]) [0] rfl ?_
      exact hk H h
    · have h := it_neg c1 h
      refine V_aload_n hC 0 dX3_allReached_10 rfl ?_
      refine V_getR (g := (r + 2)) (k := 1) (g' := (r + 2)) (k' := 17) hC 3 9 fl_X3_40 (okR hr_r rfl) rfl rfl rfl dX3_allReached_11 ?_
      refine V_iload_n hC 1 dX3_allReached_14 rfl ?_
      refine V_iload_n hC 1 dX3_allReached_15 rfl ?_
      refine V_if_ne (tgt := 23) hC dX3_allReached_16 (by decide) (fun c2 => ?_) (fun c2 => ?_)
      · have h := it_neg c2 h
        refine V_iconst (v := 0) hC dX3_allReached_23 (by decide) ?_
        obtain ⟨hi, h⟩ := gd_some h
        refine V_zast (g := (r + 2)) (k := 17) hC (okR hr_r rfl) rfl hi dX3_allReached_24 ?_
        refine V_hl h (fun H3 h => ?_)
        refine V_vi h (fun v4 hvv4 h => ?_)
        refine V_iinc (v := v4) (lv' := [(1, .int v4), (0, .ref (ad (r + 2) 1))]) hC 1 dX3_allReached_25 rfl hvv4.symm (Nat.le_of_ble_eq_true rfl) rfl ?_
        refine V_goto (tgt := 2) hC dX3_allReached_28 (by decide) ?_
        refine V_lv (lv' := [(0, .ref (ad (r + 2) 1)), (1, .int v4)]) [1, 0] rfl ?_
        exact ih v4 H3 h
      · have h := it_pos c2 h
        refine V_iconst (v := 1) hC dX3_allReached_19 (by decide) ?_
        refine V_goto (tgt := 24) hC dX3_allReached_20 (by decide) ?_
        obtain ⟨hi, h⟩ := gd_some h
        refine V_zast (g := (r + 2)) (k := 17) hC (okR hr_r rfl) rfl hi dX3_allReached_24 ?_
        refine V_hl h (fun H5 h => ?_)
        refine V_vi h (fun v6 hvv6 h => ?_)
        refine V_iinc (v := v6) (lv' := [(1, .int v6), (0, .ref (ad (r + 2) 1))]) hC 1 dX3_allReached_25 rfl hvv6.symm (Nat.le_of_ble_eq_true rfl) rfl ?_
        refine V_goto (tgt := 2) hC dX3_allReached_28 (by decide) ?_
        refine V_lv (lv' := [(0, .ref (ad (r + 2) 1)), (1, .int v6)]) [1, 0] rfl ?_
        exact ih v6 H5 h
def f_X3_allReached (r : Nat) (H : Hp) : Option (Int32 × Hp) := L_X3_allReached_2 r (fun (H7 : Hp) => bnd (f_X3_marksSpread_a r H7) (fun w9 H8 => gb (decide (w9 = (0 : Int32) ∨ w9 = 1)) (some (w9, H8)))) FU 0 H
set_option maxRecDepth 100000 in
set_option maxHeartbeats 4000000 in
theorem s_X3_allReached {p : Program} {l : Launch} {e : Env} {s : State} {m : MethodId} {args : Array Value} {below : List Frame} {meth : Method} {c : Code} {A : Nat → Prop} {D : va_G} {K4 : kQ} {ad : Nat → Nat → Nat} {nr : Nat} {r : Nat} {H : Hp} {res : Int32 × Hp} (hC : Cx p s m args c A s.heap D K4 2 RX3 cX3_allReached) (hret : meth.sig.returnType = (some .boolean) ∧ meth.locks = false) (hr_r : r < nr) (h : f_X3_allReached r H = some res) : V p l e ({ frames := 1, cells := 0, slots := 0, locals := 24 }) s m args below meth c A s.heap (QI below args s A D K4 ad nr res) D K4 ad nr 2 0 [(0, .ref (ad (r + 2) 1))] [] H := by
  unfold f_X3_allReached at h
  refine V_iconst (v := 0) hC dX3_allReached_0 (by decide) ?_
  refine V_istore_n (lv' := [(1, .int 0), (0, .ref (ad (r + 2) 1))]) hC dX3_allReached_1 (Nat.le_of_ble_eq_true rfl) rfl ?_
  refine V_lv (lv' := [(0, .ref (ad (r + 2) 1)), (1, .int 0)]) [1, 0] rfl ?_
  refine sL_X3_allReached_2 hC hret hr_r (fun H7 h => ?_) _ 0 H h
  refine V_aload_n hC 0 dX3_allReached_31 rfl ?_
  refine V_aload_n hC 0 dX3_allReached_32 rfl ?_
  refine V_getR (g := (r + 2)) (k := 1) (g' := (r + 2)) (k' := 13) hC 3 5 fl_X3_27 (okR hr_r rfl) rfl rfl rfl dX3_allReached_33 ?_
  refine V_aload_n hC 0 dX3_allReached_36 rfl ?_
  refine V_getR (g := (r + 2)) (k := 1) (g' := (r + 2)) (k' := 14) hC 3 6 fl_X3_30 (okR hr_r rfl) rfl rfl rfl dX3_allReached_37 ?_
  obtain ⟨w9, H8, hc, h⟩ := bnd_some h
  refine V_calli (g := (r + 2)) (k := 1) (As := [.ref (ad (r + 2) 13), .ref (ad (r + 2) 14)]) (st := []) hC (c_X3_marksSpread_a l (hr_r := hr_r) hc) rfl ml_X3_67 ⟨Nat.le_of_ble_eq_true rfl, Nat.le_of_ble_eq_true rfl⟩ (okR hr_r rfl) rfl rfl (Nat.le_of_ble_eq_true rfl) dX3_allReached_40 ?_
  obtain ⟨hz, h⟩ := gb_some h
  exact V_zret hC hret (nar01 (of_decide_eq_true hz)) dX3_allReached_43 h
theorem c_X3_allReached (l : Launch) {nr : Nat} {r : Nat} (hr_r : r < nr) {H : Hp} {x : Int32} {H' : Hp} (h : f_X3_allReached r H = some (x, H')) : CI l nr yX3_allReached cX3_allReached 2 (some .boolean) 1 24 (fun ad => [.ref (ad (r + 2) 1)]) H x H' := by
  intro D K4 ad sz
  refine Met.ofV (by decide) (Nat.le_of_ble_eq_true rfl) ?_
  intro p e s m args below meth c hC hret hsz
  subst hsz
  exact s_X3_allReached hC hret hr_r h
theorem dX3_allCanEnd_0 : decode cX3_allCanEnd 0 = .ok (.iconst 0, 1) := by decide +kernel
theorem dX3_allCanEnd_1 : decode cX3_allCanEnd 1 = .ok (.istore_n 1, 1) := by decide +kernel
theorem dX3_allCanEnd_2 : decode cX3_allCanEnd 2 = .ok (.iload_n 1, 1) := by decide +kernel
theorem dX3_allCanEnd_3 : decode cX3_allCanEnd 3 = .ok (.aload_n 0, 1) := by decide +kernel
theorem dX3_allCanEnd_4 : decode cX3_allCanEnd 4 = .ok (.getfield 43, 3) := by decide +kernel
theorem dX3_allCanEnd_7 : decode cX3_allCanEnd 7 = .ok (.if_icmp .ge 20, 3) := by decide +kernel
theorem dX3_allCanEnd_10 : decode cX3_allCanEnd 10 = .ok (.aload_n 0, 1) := by decide +kernel
theorem dX3_allCanEnd_11 : decode cX3_allCanEnd 11 = .ok (.getfield 40, 3) := by decide +kernel
theorem dX3_allCanEnd_14 : decode cX3_allCanEnd 14 = .ok (.iload_n 1, 1) := by decide +kernel
theorem dX3_allCanEnd_15 : decode cX3_allCanEnd 15 = .ok (.aload_n 0, 1) := by decide +kernel
theorem dX3_allCanEnd_16 : decode cX3_allCanEnd 16 = .ok (.iload_n 1, 1) := by decide +kernel
theorem dX3_allCanEnd_17 : decode cX3_allCanEnd 17 = .ok (.invokevirtual 54, 3) := by decide +kernel
theorem dX3_allCanEnd_20 : decode cX3_allCanEnd 20 = .ok (.bastore, 1) := by decide +kernel
theorem dX3_allCanEnd_21 : decode cX3_allCanEnd 21 = .ok (.iinc 1 1, 3) := by decide +kernel
theorem dX3_allCanEnd_24 : decode cX3_allCanEnd 24 = .ok (.goto (-22), 3) := by decide +kernel
theorem dX3_allCanEnd_27 : decode cX3_allCanEnd 27 = .ok (.aload_n 0, 1) := by decide +kernel
theorem dX3_allCanEnd_28 : decode cX3_allCanEnd 28 = .ok (.aload_n 0, 1) := by decide +kernel
theorem dX3_allCanEnd_29 : decode cX3_allCanEnd 29 = .ok (.getfield 30, 3) := by decide +kernel
theorem dX3_allCanEnd_32 : decode cX3_allCanEnd 32 = .ok (.aload_n 0, 1) := by decide +kernel
theorem dX3_allCanEnd_33 : decode cX3_allCanEnd 33 = .ok (.getfield 27, 3) := by decide +kernel
theorem dX3_allCanEnd_36 : decode cX3_allCanEnd 36 = .ok (.invokevirtual 67, 3) := by decide +kernel
theorem dX3_allCanEnd_39 : decode cX3_allCanEnd 39 = .ok (.ireturn, 1) := by decide +kernel
def L_X3_allCanEnd_2 (r : Nat) (k : Hp → Option (Int32 × Hp)) : Nat → Int32 → Hp → Option (Int32 × Hp)
  | 0, _, _ => none
  | n + 1, x1, H => if (gI H (r + 2) 1 10) ≤ x1 then k H else bnd (f_X3_endsIn r x1 H) (fun w3 H2 => gd x1 20 (hl (sI H2 (r + 2) 17 (Int32.toNatClampNeg x1) (vp_nar .boolean w3)) (fun (H4 : Hp) => vl (x1 + (1 : Int32)) (fun (v5 : Int32) => L_X3_allCanEnd_2 r k n v5 H4))))
set_option maxRecDepth 100000 in
set_option maxHeartbeats 4000000 in
theorem sL_X3_allCanEnd_2 {p : Program} {l : Launch} {e : Env} {s : State} {m : MethodId} {args : Array Value} {below : List Frame} {meth : Method} {c : Code} {A : Nat → Prop} {D : va_G} {K4 : kQ} {ad : Nat → Nat → Nat} {nr : Nat} {r : Nat} {k : Hp → Option (Int32 × Hp)} {res : Int32 × Hp} (hC : Cx p s m args c A s.heap D K4 2 RX3 cX3_allCanEnd) (hret : meth.sig.returnType = (some .boolean) ∧ meth.locks = false) (hr_r : r < nr) (hk : ∀ (H : Hp), k H = some res → V p l e ({ frames := 1, cells := 0, slots := 0, locals := 24 }) s m args below meth c A s.heap (QI below args s A D K4 ad nr res) D K4 ad nr 2 27 [(0, .ref (ad (r + 2) 1))] [] H) : ∀ (n : Nat) (x1 : Int32) (H : Hp), L_X3_allCanEnd_2 r k n x1 H = some res → V p l e ({ frames := 1, cells := 0, slots := 0, locals := 24 }) s m args below meth c A s.heap (QI below args s A D K4 ad nr res) D K4 ad nr 2 2 [(0, .ref (ad (r + 2) 1)), (1, .int x1)] [] H := by
  intro n
  induction n with
  | zero => intro x1 H h; exact nomatch (show (none : Option (Int32 × Hp)) = some res from h)
  | succ n ih =>
    intro x1 H h
    rw [L_X3_allCanEnd_2] at h
    refine V_iload_n hC 1 dX3_allCanEnd_2 rfl ?_
    refine V_aload_n hC 0 dX3_allCanEnd_3 rfl ?_
    refine V_getI (g := (r + 2)) (k := 1) hC 3 10 fl_X3_43 (okR hr_r rfl) rfl rfl dX3_allCanEnd_4 ?_
    refine V_icmp_ge (tgt := 27) hC dX3_allCanEnd_7 (by decide) (fun c1 => ?_) (fun c1 => ?_)
    · have h := it_pos c1 h
      refine V_lv (lv' := [(0, .ref (ad (r + 2) 1))]) [0] rfl ?_
      exact hk H h
    · have h := it_neg c1 h
      refine V_aload_n hC 0 dX3_allCanEnd_10 rfl ?_
      refine V_getR (g := (r + 2)) (k := 1) (g' := (r + 2)) (k' := 17) hC 3 9 fl_X3_40 (okR hr_r rfl) rfl rfl rfl dX3_allCanEnd_11 ?_
      refine V_iload_n hC 1 dX3_allCanEnd_14 rfl ?_
      refine V_aload_n hC 0 dX3_allCanEnd_15 rfl ?_
      refine V_iload_n hC 1 dX3_allCanEnd_16 rfl ?_
      obtain ⟨w3, H2, hc, h⟩ := bnd_some h
      refine V_calli (g := (r + 2)) (k := 1) (As := [.int x1]) (st := [.int x1, .ref (ad (r + 2) 17)]) hC (c_X3_endsIn l (hr_r := hr_r) hc) rfl ml_X3_54 ⟨Nat.le_of_ble_eq_true rfl, Nat.le_of_ble_eq_true rfl⟩ (okR hr_r rfl) rfl rfl (Nat.le_of_ble_eq_true rfl) dX3_allCanEnd_17 ?_
      obtain ⟨hi, h⟩ := gd_some h
      refine V_zast (g := (r + 2)) (k := 17) hC (okR hr_r rfl) rfl hi dX3_allCanEnd_20 ?_
      refine V_hl h (fun H4 h => ?_)
      refine V_vi h (fun v5 hvv5 h => ?_)
      refine V_iinc (v := v5) (lv' := [(1, .int v5), (0, .ref (ad (r + 2) 1))]) hC 1 dX3_allCanEnd_21 rfl hvv5.symm (Nat.le_of_ble_eq_true rfl) rfl ?_
      refine V_goto (tgt := 2) hC dX3_allCanEnd_24 (by decide) ?_
      refine V_lv (lv' := [(0, .ref (ad (r + 2) 1)), (1, .int v5)]) [1, 0] rfl ?_
      exact ih v5 H4 h
def f_X3_allCanEnd (r : Nat) (H : Hp) : Option (Int32 × Hp) := L_X3_allCanEnd_2 r (fun (H6 : Hp) => bnd (f_X3_marksSpread_b r H6) (fun w8 H7 => gb (decide (w8 = (0 : Int32) ∨ w8 = 1)) (some (w8, H7)))) FU 0 H
set_option maxRecDepth 100000 in
set_option maxHeartbeats 4000000 in
theorem s_X3_allCanEnd {p : Program} {l : Launch} {e : Env} {s : State} {m : MethodId} {args : Array Value} {below : List Frame} {meth : Method} {c : Code} {A : Nat → Prop} {D : va_G} {K4 : kQ} {ad : Nat → Nat → Nat} {nr : Nat} {r : Nat} {H : Hp} {res : Int32 × Hp} (hC : Cx p s m args c A s.heap D K4 2 RX3 cX3_allCanEnd) (hret : meth.sig.returnType = (some .boolean) ∧ meth.locks = false) (hr_r : r < nr) (h : f_X3_allCanEnd r H = some res) : V p l e ({ frames := 1, cells := 0, slots := 0, locals := 24 }) s m args below meth c A s.heap (QI below args s A D K4 ad nr res) D K4 ad nr 2 0 [(0, .ref (ad (r + 2) 1))] [] H := by
  unfold f_X3_allCanEnd at h
  refine V_iconst (v := 0) hC dX3_allCanEnd_0 (by decide) ?_
  refine V_istore_n (lv' := [(1, .int 0), (0, .ref (ad (r + 2) 1))]) hC dX3_allCanEnd_1 (Nat.le_of_ble_eq_true rfl) rfl ?_
  refine V_lv (lv' := [(0, .ref (ad (r + 2) 1)), (1, .int 0)]) [1, 0] rfl ?_
  refine sL_X3_allCanEnd_2 hC hret hr_r (fun H6 h => ?_) _ 0 H h
  refine V_aload_n hC 0 dX3_allCanEnd_27 rfl ?_
  refine V_aload_n hC 0 dX3_allCanEnd_28 rfl ?_
  refine V_getR (g := (r + 2)) (k := 1) (g' := (r + 2)) (k' := 14) hC 3 6 fl_X3_30 (okR hr_r rfl) rfl rfl rfl dX3_allCanEnd_29 ?_
  refine V_aload_n hC 0 dX3_allCanEnd_32 rfl ?_
  refine V_getR (g := (r + 2)) (k := 1) (g' := (r + 2)) (k' := 13) hC 3 5 fl_X3_27 (okR hr_r rfl) rfl rfl rfl dX3_allCanEnd_33 ?_
  obtain ⟨w8, H7, hc, h⟩ := bnd_some h
  refine V_calli (g := (r + 2)) (k := 1) (As := [.ref (ad (r + 2) 14), .ref (ad (r + 2) 13)]) (st := []) hC (c_X3_marksSpread_b l (hr_r := hr_r) hc) rfl ml_X3_67 ⟨Nat.le_of_ble_eq_true rfl, Nat.le_of_ble_eq_true rfl⟩ (okR hr_r rfl) rfl rfl (Nat.le_of_ble_eq_true rfl) dX3_allCanEnd_36 ?_
  obtain ⟨hz, h⟩ := gb_some h
  exact V_zret hC hret (nar01 (of_decide_eq_true hz)) dX3_allCanEnd_39 h
theorem c_X3_allCanEnd (l : Launch) {nr : Nat} {r : Nat} (hr_r : r < nr) {H : Hp} {x : Int32} {H' : Hp} (h : f_X3_allCanEnd r H = some (x, H')) : CI l nr yX3_allCanEnd cX3_allCanEnd 2 (some .boolean) 1 24 (fun ad => [.ref (ad (r + 2) 1)]) H x H' := by
  intro D K4 ad sz
  refine Met.ofV (by decide) (Nat.le_of_ble_eq_true rfl) ?_
  intro p e s m args below meth c hC hret hsz
  subst hsz
  exact s_X3_allCanEnd hC hret hr_r h
theorem dX3_firstFault_0 : decode cX3_firstFault 0 = .ok (.aload_n 0, 1) := by decide +kernel
theorem dX3_firstFault_1 : decode cX3_firstFault 1 = .ok (.getfield 43, 3) := by decide +kernel
theorem dX3_firstFault_4 : decode cX3_firstFault 4 = .ok (.ifCond .ne 5, 3) := by decide +kernel
theorem dX3_firstFault_7 : decode cX3_firstFault 7 = .ok (.iconst 1, 1) := by decide +kernel
theorem dX3_firstFault_8 : decode cX3_firstFault 8 = .ok (.ireturn, 1) := by decide +kernel
theorem dX3_firstFault_9 : decode cX3_firstFault 9 = .ok (.aload_n 0, 1) := by decide +kernel
theorem dX3_firstFault_10 : decode cX3_firstFault 10 = .ok (.invokevirtual 57, 3) := by decide +kernel
theorem dX3_firstFault_13 : decode cX3_firstFault 13 = .ok (.ifCond .ne 5, 3) := by decide +kernel
theorem dX3_firstFault_16 : decode cX3_firstFault 16 = .ok (.iconst 2, 1) := by decide +kernel
theorem dX3_firstFault_17 : decode cX3_firstFault 17 = .ok (.ireturn, 1) := by decide +kernel
theorem dX3_firstFault_18 : decode cX3_firstFault 18 = .ok (.aload_n 0, 1) := by decide +kernel
theorem dX3_firstFault_19 : decode cX3_firstFault 19 = .ok (.invokevirtual 61, 3) := by decide +kernel
theorem dX3_firstFault_22 : decode cX3_firstFault 22 = .ok (.ifCond .ne 5, 3) := by decide +kernel
theorem dX3_firstFault_25 : decode cX3_firstFault 25 = .ok (.iconst 3, 1) := by decide +kernel
theorem dX3_firstFault_26 : decode cX3_firstFault 26 = .ok (.ireturn, 1) := by decide +kernel
theorem dX3_firstFault_27 : decode cX3_firstFault 27 = .ok (.aload_n 0, 1) := by decide +kernel
theorem dX3_firstFault_28 : decode cX3_firstFault 28 = .ok (.invokevirtual 64, 3) := by decide +kernel
theorem dX3_firstFault_31 : decode cX3_firstFault 31 = .ok (.ifCond .eq 7, 3) := by decide +kernel
theorem dX3_firstFault_34 : decode cX3_firstFault 34 = .ok (.iconst 0, 1) := by decide +kernel
theorem dX3_firstFault_35 : decode cX3_firstFault 35 = .ok (.goto 4, 3) := by decide +kernel
theorem dX3_firstFault_38 : decode cX3_firstFault 38 = .ok (.iconst 4, 1) := by decide +kernel
theorem dX3_firstFault_39 : decode cX3_firstFault 39 = .ok (.ireturn, 1) := by decide +kernel
def f_X3_firstFault (r : Nat) (H : Hp) : Option (Int32 × Hp) := if (gI H (r + 2) 1 10) = 0 then some (1, H) else bnd (f_X3_outsFitKinds r H) (fun w3 H2 => if w3 = 0 then some (2, H2) else bnd (f_X3_allReached r H2) (fun w6 H5 => if w6 = 0 then some (3, H5) else bnd (f_X3_allCanEnd r H5) (fun w9 H8 => if w9 = 0 then some (4, H8) else some (0, H8))))
set_option maxRecDepth 100000 in
set_option maxHeartbeats 4000000 in
theorem s_X3_firstFault {p : Program} {l : Launch} {e : Env} {s : State} {m : MethodId} {args : Array Value} {below : List Frame} {meth : Method} {c : Code} {A : Nat → Prop} {D : va_G} {K4 : kQ} {ad : Nat → Nat → Nat} {nr : Nat} {r : Nat} {H : Hp} {res : Int32 × Hp} (hC : Cx p s m args c A s.heap D K4 1 RX3 cX3_firstFault) (hret : meth.sig.returnType = (some .int) ∧ meth.locks = false) (hr_r : r < nr) (h : f_X3_firstFault r H = some res) : V p l e ({ frames := 2, cells := 0, slots := 0, locals := 45 }) s m args below meth c A s.heap (QI below args s A D K4 ad nr res) D K4 ad nr 1 0 [(0, .ref (ad (r + 2) 1))] [] H := by
  unfold f_X3_firstFault at h
  refine V_aload_n hC 0 dX3_firstFault_0 rfl ?_
  refine V_getI (g := (r + 2)) (k := 1) hC 3 10 fl_X3_43 (okR hr_r rfl) rfl rfl dX3_firstFault_1 ?_
  refine V_if_ne (tgt := 9) hC dX3_firstFault_4 (by decide) (fun c1 => ?_) (fun c1 => ?_)
  · have h := it_neg c1 h
    refine V_aload_n hC 0 dX3_firstFault_9 rfl ?_
    obtain ⟨w3, H2, hc, h⟩ := bnd_some h
    refine V_calli (g := (r + 2)) (k := 1) (As := []) (st := []) hC (c_X3_outsFitKinds l (hr_r := hr_r) hc) rfl ml_X3_57 ⟨Nat.le_of_ble_eq_true rfl, Nat.le_of_ble_eq_true rfl⟩ (okR hr_r rfl) rfl rfl (Nat.le_of_ble_eq_true rfl) dX3_firstFault_10 ?_
    refine V_if_ne (tgt := 18) hC dX3_firstFault_13 (by decide) (fun c4 => ?_) (fun c4 => ?_)
    · have h := it_neg c4 h
      refine V_aload_n hC 0 dX3_firstFault_18 rfl ?_
      obtain ⟨w6, H5, hc, h⟩ := bnd_some h
      refine V_calli (g := (r + 2)) (k := 1) (As := []) (st := []) hC (c_X3_allReached l (hr_r := hr_r) hc) rfl ml_X3_61 ⟨Nat.le_of_ble_eq_true rfl, Nat.le_of_ble_eq_true rfl⟩ (okR hr_r rfl) rfl rfl (Nat.le_of_ble_eq_true rfl) dX3_firstFault_19 ?_
      refine V_if_ne (tgt := 27) hC dX3_firstFault_22 (by decide) (fun c7 => ?_) (fun c7 => ?_)
      · have h := it_neg c7 h
        refine V_aload_n hC 0 dX3_firstFault_27 rfl ?_
        obtain ⟨w9, H8, hc, h⟩ := bnd_some h
        refine V_calli (g := (r + 2)) (k := 1) (As := []) (st := []) hC (c_X3_allCanEnd l (hr_r := hr_r) hc) rfl ml_X3_64 ⟨Nat.le_of_ble_eq_true rfl, Nat.le_of_ble_eq_true rfl⟩ (okR hr_r rfl) rfl rfl (Nat.le_of_ble_eq_true rfl) dX3_firstFault_28 ?_
        refine V_if_eq (tgt := 38) hC dX3_firstFault_31 (by decide) (fun c10 => ?_) (fun c10 => ?_)
        · have h := it_pos c10 h
          refine V_iconst (v := 4) hC dX3_firstFault_38 (by decide) ?_
          exact V_iret hC hret dX3_firstFault_39 h
        · have h := it_neg c10 h
          refine V_iconst (v := 0) hC dX3_firstFault_34 (by decide) ?_
          refine V_goto (tgt := 39) hC dX3_firstFault_35 (by decide) ?_
          exact V_iret hC hret dX3_firstFault_39 h
      · have h := it_pos c7 h
        refine V_iconst (v := 3) hC dX3_firstFault_25 (by decide) ?_
        exact V_iret hC hret dX3_firstFault_26 h
    · have h := it_pos c4 h
      refine V_iconst (v := 2) hC dX3_firstFault_16 (by decide) ?_
      exact V_iret hC hret dX3_firstFault_17 h
  · have h := it_pos c1 h
    refine V_iconst (v := 1) hC dX3_firstFault_7 (by decide) ?_
    exact V_iret hC hret dX3_firstFault_8 h
theorem c_X3_firstFault (l : Launch) {nr : Nat} {r : Nat} (hr_r : r < nr) {H : Hp} {x : Int32} {H' : Hp} (h : f_X3_firstFault r H = some (x, H')) : CI l nr yX3_firstFault cX3_firstFault 1 (some .int) 2 45 (fun ad => [.ref (ad (r + 2) 1)]) H x H' := by
  intro D K4 ad sz
  refine Met.ofV (by decide) (Nat.le_of_ble_eq_true rfl) ?_
  intro p e s m args below meth c hC hret hsz
  subst hsz
  exact s_X3_firstFault hC hret hr_r h
theorem dX3_addLink_0 : decode cX3_addLink 0 = .ok (.aload_n 0, 1) := by decide +kernel
theorem dX3_addLink_1 : decode cX3_addLink 1 = .ok (.getfield 27, 3) := by decide +kernel
theorem dX3_addLink_4 : decode cX3_addLink 4 = .ok (.aload_n 0, 1) := by decide +kernel
theorem dX3_addLink_5 : decode cX3_addLink 5 = .ok (.getfield 71, 3) := by decide +kernel
theorem dX3_addLink_8 : decode cX3_addLink 8 = .ok (.iload_n 1, 1) := by decide +kernel
theorem dX3_addLink_9 : decode cX3_addLink 9 = .ok (.iastore, 1) := by decide +kernel
theorem dX3_addLink_10 : decode cX3_addLink 10 = .ok (.aload_n 0, 1) := by decide +kernel
theorem dX3_addLink_11 : decode cX3_addLink 11 = .ok (.getfield 30, 3) := by decide +kernel
theorem dX3_addLink_14 : decode cX3_addLink 14 = .ok (.aload_n 0, 1) := by decide +kernel
theorem dX3_addLink_15 : decode cX3_addLink 15 = .ok (.getfield 71, 3) := by decide +kernel
theorem dX3_addLink_18 : decode cX3_addLink 18 = .ok (.iload_n 2, 1) := by decide +kernel
theorem dX3_addLink_19 : decode cX3_addLink 19 = .ok (.iastore, 1) := by decide +kernel
theorem dX3_addLink_20 : decode cX3_addLink 20 = .ok (.aload_n 0, 1) := by decide +kernel
theorem dX3_addLink_21 : decode cX3_addLink 21 = .ok (.dup, 1) := by decide +kernel
theorem dX3_addLink_22 : decode cX3_addLink 22 = .ok (.getfield 71, 3) := by decide +kernel
theorem dX3_addLink_25 : decode cX3_addLink 25 = .ok (.iconst 1, 1) := by decide +kernel
theorem dX3_addLink_26 : decode cX3_addLink 26 = .ok (.iadd, 1) := by decide +kernel
theorem dX3_addLink_27 : decode cX3_addLink 27 = .ok (.putfield 71, 3) := by decide +kernel
theorem dX3_addLink_30 : decode cX3_addLink 30 = .ok (.return_, 1) := by decide +kernel
def f_X3_addLink (r : Nat) (a1 : Int32) (a2 : Int32) (H : Hp) : Option (Unit × Hp) := gd (gI H (r + 2) 1 12) 61 (hl (sI H (r + 2) 13 (Int32.toNatClampNeg (gI H (r + 2) 1 12)) a1) (fun (H1 : Hp) => gd (gI H1 (r + 2) 1 12) 61 (hl (sI H1 (r + 2) 14 (Int32.toNatClampNeg (gI H1 (r + 2) 1 12)) a2) (fun (H2 : Hp) => hl (sI H2 (r + 2) 1 12 ((gI H2 (r + 2) 1 12) + 1)) (fun (H3 : Hp) => some ((), H3))))))
set_option maxRecDepth 100000 in
set_option maxHeartbeats 4000000 in
theorem s_X3_addLink {p : Program} {l : Launch} {e : Env} {s : State} {m : MethodId} {args : Array Value} {below : List Frame} {meth : Method} {c : Code} {A : Nat → Prop} {D : va_G} {K4 : kQ} {ad : Nat → Nat → Nat} {nr : Nat} {r : Nat} {a1 : Int32} {a2 : Int32} {H : Hp} {res : Unit × Hp} (hC : Cx p s m args c A s.heap D K4 3 RX3 cX3_addLink) (hret : meth.sig.returnType = none ∧ meth.locks = false) (hr_r : r < nr) (h : f_X3_addLink r a1 a2 H = some res) : V p l e ({ frames := 0, cells := 0, slots := 0, locals := 0 }) s m args below meth c A s.heap (QU below args s A D K4 ad nr res) D K4 ad nr 3 0 [(0, .ref (ad (r + 2) 1)), (1, .int a1), (2, .int a2)] [] H := by
  unfold f_X3_addLink at h
  refine V_aload_n hC 0 dX3_addLink_0 rfl ?_
  refine V_getR (g := (r + 2)) (k := 1) (g' := (r + 2)) (k' := 13) hC 3 5 fl_X3_27 (okR hr_r rfl) rfl rfl rfl dX3_addLink_1 ?_
  refine V_aload_n hC 0 dX3_addLink_4 rfl ?_
  refine V_getI (g := (r + 2)) (k := 1) hC 3 12 fl_X3_71 (okR hr_r rfl) rfl rfl dX3_addLink_5 ?_
  refine V_iload_n hC 1 dX3_addLink_8 rfl ?_
  obtain ⟨hi, h⟩ := gd_some h
  refine V_iast (g := (r + 2)) (k := 13) hC (okR hr_r rfl) rfl hi dX3_addLink_9 ?_
  refine V_hl h (fun H1 h => ?_)
  refine V_aload_n hC 0 dX3_addLink_10 rfl ?_
  refine V_getR (g := (r + 2)) (k := 1) (g' := (r + 2)) (k' := 14) hC 3 6 fl_X3_30 (okR hr_r rfl) rfl rfl rfl dX3_addLink_11 ?_
  refine V_aload_n hC 0 dX3_addLink_14 rfl ?_
  refine V_getI (g := (r + 2)) (k := 1) hC 3 12 fl_X3_71 (okR hr_r rfl) rfl rfl dX3_addLink_15 ?_
  refine V_iload_n hC 2 dX3_addLink_18 rfl ?_
  obtain ⟨hi, h⟩ := gd_some h
  refine V_iast (g := (r + 2)) (k := 14) hC (okR hr_r rfl) rfl hi dX3_addLink_19 ?_
  refine V_hl h (fun H2 h => ?_)
  refine V_aload_n hC 0 dX3_addLink_20 rfl ?_
  refine V_dup hC dX3_addLink_21 rfl ?_
  refine V_getI (g := (r + 2)) (k := 1) hC 3 12 fl_X3_71 (okR hr_r rfl) rfl rfl dX3_addLink_22 ?_
  refine V_iconst (v := 1) hC dX3_addLink_25 (by decide) ?_
  refine V_iadd hC dX3_addLink_26 ?_
  refine V_putI (g := (r + 2)) (k := 1) hC 3 12 .int fw_X3_71 (okR hr_r rfl) rfl rfl rfl rfl dX3_addLink_27 ?_
  refine V_hl h (fun H3 h => ?_)
  exact V_vret hC hret dX3_addLink_30 h
theorem c_X3_addLink (l : Launch) {nr : Nat} {r : Nat} (hr_r : r < nr) {a1 : Int32} {a2 : Int32} {H : Hp} {x : Unit} {H' : Hp} (h : f_X3_addLink r a1 a2 H = some (x, H')) : CU l nr yX3_addLink cX3_addLink 3 none 0 0 (fun ad => [.ref (ad (r + 2) 1), .int a1, .int a2]) H x H' := by
  intro D K4 ad sz
  refine Met.ofV (by decide) (Nat.le_of_ble_eq_true rfl) ?_
  intro p e s m args below meth c hC hret hsz
  subst hsz
  exact s_X3_addLink hC hret hr_r h
theorem dX3_linkEnd_0 : decode cX3_linkEnd 0 = .ok (.aload_n 0, 1) := by decide +kernel
theorem dX3_linkEnd_1 : decode cX3_linkEnd 1 = .ok (.aload_n 0, 1) := by decide +kernel
theorem dX3_linkEnd_2 : decode cX3_linkEnd 2 = .ok (.getfield 47, 3) := by decide +kernel
theorem dX3_linkEnd_5 : decode cX3_linkEnd 5 = .ok (.putfield 71, 3) := by decide +kernel
theorem dX3_linkEnd_8 : decode cX3_linkEnd 8 = .ok (.iconst 0, 1) := by decide +kernel
theorem dX3_linkEnd_9 : decode cX3_linkEnd 9 = .ok (.istore_n 1, 1) := by decide +kernel
theorem dX3_linkEnd_10 : decode cX3_linkEnd 10 = .ok (.iload_n 1, 1) := by decide +kernel
theorem dX3_linkEnd_11 : decode cX3_linkEnd 11 = .ok (.aload_n 0, 1) := by decide +kernel
theorem dX3_linkEnd_12 : decode cX3_linkEnd 12 = .ok (.getfield 43, 3) := by decide +kernel
theorem dX3_linkEnd_15 : decode cX3_linkEnd 15 = .ok (.if_icmp .ge 28, 3) := by decide +kernel
theorem dX3_linkEnd_18 : decode cX3_linkEnd 18 = .ok (.aload_n 0, 1) := by decide +kernel
theorem dX3_linkEnd_19 : decode cX3_linkEnd 19 = .ok (.getfield 9, 3) := by decide +kernel
theorem dX3_linkEnd_22 : decode cX3_linkEnd 22 = .ok (.iload_n 1, 1) := by decide +kernel
theorem dX3_linkEnd_23 : decode cX3_linkEnd 23 = .ok (.iaload, 1) := by decide +kernel
theorem dX3_linkEnd_24 : decode cX3_linkEnd 24 = .ok (.iconst 3, 1) := by decide +kernel
theorem dX3_linkEnd_25 : decode cX3_linkEnd 25 = .ok (.if_icmp .ne 12, 3) := by decide +kernel
theorem dX3_linkEnd_28 : decode cX3_linkEnd 28 = .ok (.aload_n 0, 1) := by decide +kernel
theorem dX3_linkEnd_29 : decode cX3_linkEnd 29 = .ok (.iload_n 1, 1) := by decide +kernel
theorem dX3_linkEnd_30 : decode cX3_linkEnd 30 = .ok (.aload_n 0, 1) := by decide +kernel
theorem dX3_linkEnd_31 : decode cX3_linkEnd 31 = .ok (.getfield 43, 3) := by decide +kernel
theorem dX3_linkEnd_34 : decode cX3_linkEnd 34 = .ok (.invokevirtual 74, 3) := by decide +kernel
theorem dX3_linkEnd_37 : decode cX3_linkEnd 37 = .ok (.iinc 1 1, 3) := by decide +kernel
theorem dX3_linkEnd_40 : decode cX3_linkEnd 40 = .ok (.goto (-30), 3) := by decide +kernel
theorem dX3_linkEnd_43 : decode cX3_linkEnd 43 = .ok (.aload_n 0, 1) := by decide +kernel
theorem dX3_linkEnd_44 : decode cX3_linkEnd 44 = .ok (.aload_n 0, 1) := by decide +kernel
theorem dX3_linkEnd_45 : decode cX3_linkEnd 45 = .ok (.getfield 43, 3) := by decide +kernel
theorem dX3_linkEnd_48 : decode cX3_linkEnd 48 = .ok (.iconst 0, 1) := by decide +kernel
theorem dX3_linkEnd_49 : decode cX3_linkEnd 49 = .ok (.invokevirtual 74, 3) := by decide +kernel
theorem dX3_linkEnd_52 : decode cX3_linkEnd 52 = .ok (.return_, 1) := by decide +kernel
def L_X3_linkEnd_10 (r : Nat) (k : Hp → Option (Unit × Hp)) : Nat → Int32 → Hp → Option (Unit × Hp)
  | 0, _, _ => none
  | n + 1, x1, H => if (gI H (r + 2) 1 10) ≤ x1 then k H else gd x1 20 (if (gI H (r + 2) 8 (Int32.toNatClampNeg x1)) = 3 then bnd (f_X3_addLink r x1 (gI H (r + 2) 1 10) H) (fun w6 H5 => vl (x1 + (1 : Int32)) (fun (v7 : Int32) => L_X3_linkEnd_10 r k n v7 H5)) else vl (x1 + (1 : Int32)) (fun (v4 : Int32) => L_X3_linkEnd_10 r k n v4 H))
set_option maxRecDepth 100000 in
set_option maxHeartbeats 4000000 in
theorem sL_X3_linkEnd_10 {p : Program} {l : Launch} {e : Env} {s : State} {m : MethodId} {args : Array Value} {below : List Frame} {meth : Method} {c : Code} {A : Nat → Prop} {D : va_G} {K4 : kQ} {ad : Nat → Nat → Nat} {nr : Nat} {r : Nat} {k : Hp → Option (Unit × Hp)} {res : Unit × Hp} (hC : Cx p s m args c A s.heap D K4 2 RX3 cX3_linkEnd) (hret : meth.sig.returnType = none ∧ meth.locks = false) (hr_r : r < nr) (hk : ∀ (H : Hp), k H = some res → V p l e ({ frames := 1, cells := 0, slots := 0, locals := 22 }) s m args below meth c A s.heap (QU below args s A D K4 ad nr res) D K4 ad nr 2 43 [(0, .ref (ad (r + 2) 1))] [] H) : ∀ (n : Nat) (x1 : Int32) (H : Hp), L_X3_linkEnd_10 r k n x1 H = some res → V p l e ({ frames := 1, cells := 0, slots := 0, locals := 22 }) s m args below meth c A s.heap (QU below args s A D K4 ad nr res) D K4 ad nr 2 10 [(0, .ref (ad (r + 2) 1)), (1, .int x1)] [] H := by
  intro n
  induction n with
  | zero => intro x1 H h; exact nomatch (show (none : Option (Unit × Hp)) = some res from h)
  | succ n ih =>
    intro x1 H h
    rw [L_X3_linkEnd_10] at h
    refine V_iload_n hC 1 dX3_linkEnd_10 rfl ?_
    refine V_aload_n hC 0 dX3_linkEnd_11 rfl ?_
    refine V_getI (g := (r + 2)) (k := 1) hC 3 10 fl_X3_43 (okR hr_r rfl) rfl rfl dX3_linkEnd_12 ?_
    refine V_icmp_ge (tgt := 43) hC dX3_linkEnd_15 (by decide) (fun c2 => ?_) (fun c2 => ?_)
    · have h := it_pos c2 h
      refine V_lv (lv' := [(0, .ref (ad (r + 2) 1))]) [0] rfl ?_
      exact hk H h
    · have h := it_neg c2 h
      refine V_aload_n hC 0 dX3_linkEnd_18 rfl ?_
      refine V_getR (g := (r + 2)) (k := 1) (g' := (r + 2)) (k' := 8) hC 3 0 fl_X3_9 (okR hr_r rfl) rfl rfl rfl dX3_linkEnd_19 ?_
      refine V_iload_n hC 1 dX3_linkEnd_22 rfl ?_
      obtain ⟨hi, h⟩ := gd_some h
      refine V_iald (g := (r + 2)) (k := 8) hC (okR hr_r rfl) rfl hi dX3_linkEnd_23 ?_
      refine V_iconst (v := 3) hC dX3_linkEnd_24 (by decide) ?_
      refine V_icmp_ne (tgt := 37) hC dX3_linkEnd_25 (by decide) (fun c3 => ?_) (fun c3 => ?_)
      · have h := it_neg c3 h
        refine V_vi h (fun v4 hvv4 h => ?_)
        refine V_iinc (v := v4) (lv' := [(1, .int v4), (0, .ref (ad (r + 2) 1))]) hC 1 dX3_linkEnd_37 rfl hvv4.symm (Nat.le_of_ble_eq_true rfl) rfl ?_
        refine V_goto (tgt := 10) hC dX3_linkEnd_40 (by decide) ?_
        refine V_lv (lv' := [(0, .ref (ad (r + 2) 1)), (1, .int v4)]) [1, 0] rfl ?_
        exact ih v4 H h
      · have h := it_pos c3 h
        refine V_aload_n hC 0 dX3_linkEnd_28 rfl ?_
        refine V_iload_n hC 1 dX3_linkEnd_29 rfl ?_
        refine V_aload_n hC 0 dX3_linkEnd_30 rfl ?_
        refine V_getI (g := (r + 2)) (k := 1) hC 3 10 fl_X3_43 (okR hr_r rfl) rfl rfl dX3_linkEnd_31 ?_
        obtain ⟨w6, H5, hc, h⟩ := bnd_some h
        refine V_callu (g := (r + 2)) (k := 1) (As := [.int x1, .int (gI H (r + 2) 1 10)]) (st := []) hC (c_X3_addLink l (hr_r := hr_r) hc) rfl ml_X3_74 ⟨Nat.le_of_ble_eq_true rfl, Nat.le_of_ble_eq_true rfl⟩ (okR hr_r rfl) rfl rfl (Nat.le_of_ble_eq_true rfl) dX3_linkEnd_34 ?_
        refine V_vi h (fun v7 hvv7 h => ?_)
        refine V_iinc (v := v7) (lv' := [(1, .int v7), (0, .ref (ad (r + 2) 1))]) hC 1 dX3_linkEnd_37 rfl hvv7.symm (Nat.le_of_ble_eq_true rfl) rfl ?_
        refine V_goto (tgt := 10) hC dX3_linkEnd_40 (by decide) ?_
        refine V_lv (lv' := [(0, .ref (ad (r + 2) 1)), (1, .int v7)]) [1, 0] rfl ?_
        exact ih v7 H5 h
def f_X3_linkEnd (r : Nat) (H : Hp) : Option (Unit × Hp) := hl (sI H (r + 2) 1 12 (gI H (r + 2) 1 11)) (fun (H1 : Hp) => L_X3_linkEnd_10 r (fun (H8 : Hp) => bnd (f_X3_addLink r (gI H8 (r + 2) 1 10) 0 H8) (fun w10 H9 => some ((), H9))) FU 0 H1)
set_option maxRecDepth 100000 in
set_option maxHeartbeats 4000000 in
theorem s_X3_linkEnd {p : Program} {l : Launch} {e : Env} {s : State} {m : MethodId} {args : Array Value} {below : List Frame} {meth : Method} {c : Code} {A : Nat → Prop} {D : va_G} {K4 : kQ} {ad : Nat → Nat → Nat} {nr : Nat} {r : Nat} {H : Hp} {res : Unit × Hp} (hC : Cx p s m args c A s.heap D K4 2 RX3 cX3_linkEnd) (hret : meth.sig.returnType = none ∧ meth.locks = false) (hr_r : r < nr) (h : f_X3_linkEnd r H = some res) : V p l e ({ frames := 1, cells := 0, slots := 0, locals := 22 }) s m args below meth c A s.heap (QU below args s A D K4 ad nr res) D K4 ad nr 2 0 [(0, .ref (ad (r + 2) 1))] [] H := by
  unfold f_X3_linkEnd at h
  refine V_aload_n hC 0 dX3_linkEnd_0 rfl ?_
  refine V_aload_n hC 0 dX3_linkEnd_1 rfl ?_
  refine V_getI (g := (r + 2)) (k := 1) hC 3 11 fl_X3_47 (okR hr_r rfl) rfl rfl dX3_linkEnd_2 ?_
  refine V_putI (g := (r + 2)) (k := 1) hC 3 12 .int fw_X3_71 (okR hr_r rfl) rfl rfl rfl rfl dX3_linkEnd_5 ?_
  refine V_hl h (fun H1 h => ?_)
  refine V_iconst (v := 0) hC dX3_linkEnd_8 (by decide) ?_
  refine V_istore_n (lv' := [(1, .int 0), (0, .ref (ad (r + 2) 1))]) hC dX3_linkEnd_9 (Nat.le_of_ble_eq_true rfl) rfl ?_
  refine V_lv (lv' := [(0, .ref (ad (r + 2) 1)), (1, .int 0)]) [1, 0] rfl ?_
  refine sL_X3_linkEnd_10 hC hret hr_r (fun H8 h => ?_) _ 0 H1 h
  refine V_aload_n hC 0 dX3_linkEnd_43 rfl ?_
  refine V_aload_n hC 0 dX3_linkEnd_44 rfl ?_
  refine V_getI (g := (r + 2)) (k := 1) hC 3 10 fl_X3_43 (okR hr_r rfl) rfl rfl dX3_linkEnd_45 ?_
  refine V_iconst (v := 0) hC dX3_linkEnd_48 (by decide) ?_
  obtain ⟨w10, H9, hc, h⟩ := bnd_some h
  refine V_callu (g := (r + 2)) (k := 1) (As := [.int (gI H8 (r + 2) 1 10), .int 0]) (st := []) hC (c_X3_addLink l (hr_r := hr_r) hc) rfl ml_X3_74 ⟨Nat.le_of_ble_eq_true rfl, Nat.le_of_ble_eq_true rfl⟩ (okR hr_r rfl) rfl rfl (Nat.le_of_ble_eq_true rfl) dX3_linkEnd_49 ?_
  exact V_vret hC hret dX3_linkEnd_52 h
theorem c_X3_linkEnd (l : Launch) {nr : Nat} {r : Nat} (hr_r : r < nr) {H : Hp} {x : Unit} {H' : Hp} (h : f_X3_linkEnd r H = some (x, H')) : CU l nr yX3_linkEnd cX3_linkEnd 2 none 1 22 (fun ad => [.ref (ad (r + 2) 1)]) H x H' := by
  intro D K4 ad sz
  refine Met.ofV (by decide) (Nat.le_of_ble_eq_true rfl) ?_
  intro p e s m args below meth c hC hret hsz
  subst hsz
  exact s_X3_linkEnd hC hret hr_r h
theorem dX3_standOf_0 : decode cX3_standOf 0 = .ok (.aload_n 0, 1) := by decide +kernel
theorem dX3_standOf_1 : decode cX3_standOf 1 = .ok (.getfield 18, 3) := by decide +kernel
theorem dX3_standOf_4 : decode cX3_standOf 4 = .ok (.aload_n 0, 1) := by decide +kernel
theorem dX3_standOf_5 : decode cX3_standOf 5 = .ok (.getfield 27, 3) := by decide +kernel
theorem dX3_standOf_8 : decode cX3_standOf 8 = .ok (.iload_n 1, 1) := by decide +kernel
theorem dX3_standOf_9 : decode cX3_standOf 9 = .ok (.iaload, 1) := by decide +kernel
theorem dX3_standOf_10 : decode cX3_standOf 10 = .ok (.iaload, 1) := by decide +kernel
theorem dX3_standOf_11 : decode cX3_standOf 11 = .ok (.iconst 1, 1) := by decide +kernel
theorem dX3_standOf_12 : decode cX3_standOf 12 = .ok (.if_icmp .ne 5, 3) := by decide +kernel
theorem dX3_standOf_15 : decode cX3_standOf 15 = .ok (.iconst 1, 1) := by decide +kernel
theorem dX3_standOf_16 : decode cX3_standOf 16 = .ok (.ireturn, 1) := by decide +kernel
theorem dX3_standOf_17 : decode cX3_standOf 17 = .ok (.aload_n 0, 1) := by decide +kernel
theorem dX3_standOf_18 : decode cX3_standOf 18 = .ok (.getfield 21, 3) := by decide +kernel
theorem dX3_standOf_21 : decode cX3_standOf 21 = .ok (.aload_n 0, 1) := by decide +kernel
theorem dX3_standOf_22 : decode cX3_standOf 22 = .ok (.getfield 30, 3) := by decide +kernel
theorem dX3_standOf_25 : decode cX3_standOf 25 = .ok (.iload_n 1, 1) := by decide +kernel
theorem dX3_standOf_26 : decode cX3_standOf 26 = .ok (.iaload, 1) := by decide +kernel
theorem dX3_standOf_27 : decode cX3_standOf 27 = .ok (.iaload, 1) := by decide +kernel
theorem dX3_standOf_28 : decode cX3_standOf 28 = .ok (.aload_n 0, 1) := by decide +kernel
theorem dX3_standOf_29 : decode cX3_standOf 29 = .ok (.getfield 30, 3) := by decide +kernel
theorem dX3_standOf_32 : decode cX3_standOf 32 = .ok (.iload_n 1, 1) := by decide +kernel
theorem dX3_standOf_33 : decode cX3_standOf 33 = .ok (.iaload, 1) := by decide +kernel
theorem dX3_standOf_34 : decode cX3_standOf 34 = .ok (.ifCond .ne 7, 3) := by decide +kernel
theorem dX3_standOf_37 : decode cX3_standOf 37 = .ok (.iconst 1, 1) := by decide +kernel
theorem dX3_standOf_38 : decode cX3_standOf 38 = .ok (.goto 4, 3) := by decide +kernel
theorem dX3_standOf_41 : decode cX3_standOf 41 = .ok (.iconst 0, 1) := by decide +kernel
theorem dX3_standOf_42 : decode cX3_standOf 42 = .ok (.iadd, 1) := by decide +kernel
theorem dX3_standOf_43 : decode cX3_standOf 43 = .ok (.istore_n 2, 1) := by decide +kernel
theorem dX3_standOf_44 : decode cX3_standOf 44 = .ok (.iload_n 2, 1) := by decide +kernel
theorem dX3_standOf_45 : decode cX3_standOf 45 = .ok (.iconst 1, 1) := by decide +kernel
theorem dX3_standOf_46 : decode cX3_standOf 46 = .ok (.if_icmp .ne 7, 3) := by decide +kernel
theorem dX3_standOf_49 : decode cX3_standOf 49 = .ok (.iconst 2, 1) := by decide +kernel
theorem dX3_standOf_50 : decode cX3_standOf 50 = .ok (.goto 4, 3) := by decide +kernel
theorem dX3_standOf_53 : decode cX3_standOf 53 = .ok (.iconst 0, 1) := by decide +kernel
theorem dX3_standOf_54 : decode cX3_standOf 54 = .ok (.ireturn, 1) := by decide +kernel
def f_X3_standOf (r : Nat) (a1 : Int32) (H : Hp) : Option (Int32 × Hp) := gd a1 61 (gd (gI H (r + 2) 13 (Int32.toNatClampNeg a1)) 20 (if (gI H (r + 2) 10 (Int32.toNatClampNeg (gI H (r + 2) 13 (Int32.toNatClampNeg a1)))) = 1 then some (1, H) else gd a1 61 (gd (gI H (r + 2) 14 (Int32.toNatClampNeg a1)) 20 (gd a1 61 (if (gI H (r + 2) 14 (Int32.toNatClampNeg a1)) = 0 then vl (((gI H (r + 2) 11 (Int32.toNatClampNeg (gI H (r + 2) 14 (Int32.toNatClampNeg a1)))) + 1)) (fun (v5 : Int32) => if v5 = 1 then some (2, H) else some (0, H)) else vl (((gI H (r + 2) 11 (Int32.toNatClampNeg (gI H (r + 2) 14 (Int32.toNatClampNeg a1)))) + 0)) (fun (v3 : Int32) => if v3 = 1 then some (2, H) else some (0, H)))))))
set_option maxRecDepth 100000 in
set_option maxHeartbeats 4000000 in
theorem s_X3_standOf {p : Program} {l : Launch} {e : Env} {s : State} {m : MethodId} {args : Array Value} {below : List Frame} {meth : Method} {c : Code} {A : Nat → Prop} {D : va_G} {K4 : kQ} {ad : Nat → Nat → Nat} {nr : Nat} {r : Nat} {a1 : Int32} {H : Hp} {res : Int32 × Hp} (hC : Cx p s m args c A s.heap D K4 3 RX3 cX3_standOf) (hret : meth.sig.returnType = (some .int) ∧ meth.locks = false) (hr_r : r < nr) (h : f_X3_standOf r a1 H = some res) : V p l e ({ frames := 0, cells := 0, slots := 0, locals := 0 }) s m args below meth c A s.heap (QI below args s A D K4 ad nr res) D K4 ad nr 3 0 [(0, .ref (ad (r + 2) 1)), (1, .int a1)] [] H := by
  unfold f_X3_standOf at h
  refine V_aload_n hC 0 dX3_standOf_0 rfl ?_
  refine V_getR (g := (r + 2)) (k := 1) (g' := (r + 2)) (k' := 10) hC 3 2 fl_X3_18 (okR hr_r rfl) rfl rfl rfl dX3_standOf_1 ?_
  refine V_aload_n hC 0 dX3_standOf_4 rfl ?_
  refine V_getR (g := (r + 2)) (k := 1) (g' := (r + 2)) (k' := 13) hC 3 5 fl_X3_27 (okR hr_r rfl) rfl rfl rfl dX3_standOf_5 ?_
  refine V_iload_n hC 1 dX3_standOf_8 rfl ?_
  obtain ⟨hi, h⟩ := gd_some h
  refine V_iald (g := (r + 2)) (k := 13) hC (okR hr_r rfl) rfl hi dX3_standOf_9 ?_
  obtain ⟨hi, h⟩ := gd_some h
  refine V_iald (g := (r + 2)) (k := 10) hC (okR hr_r rfl) rfl hi dX3_standOf_10 ?_
  refine V_iconst (v := 1) hC dX3_standOf_11 (by decide) ?_
  refine V_icmp_ne (tgt := 17) hC dX3_standOf_12 (by decide) (fun c1 => ?_) (fun c1 => ?_)
  · have h := it_neg c1 h
    refine V_aload_n hC 0 dX3_standOf_17 rfl ?_
    refine V_getR (g := (r + 2)) (k := 1) (g' := (r + 2)) (k' := 11) hC 3 3 fl_X3_21 (okR hr_r rfl) rfl rfl rfl dX3_standOf_18 ?_
    refine V_aload_n hC 0 dX3_standOf_21 rfl ?_
    refine V_getR (g := (r + 2)) (k := 1) (g' := (r + 2)) (k' := 14) hC 3 6 fl_X3_30 (okR hr_r rfl) rfl rfl rfl dX3_standOf_22 ?_
    refine V_iload_n hC 1 dX3_standOf_25 rfl ?_
    obtain ⟨hi, h⟩ := gd_some h
    refine V_iald (g := (r + 2)) (k := 14) hC (okR hr_r rfl) rfl hi dX3_standOf_26 ?_
    obtain ⟨hi, h⟩ := gd_some h
    refine V_iald (g := (r + 2)) (k := 11) hC (okR hr_r rfl) rfl hi dX3_standOf_27 ?_
    refine V_aload_n hC 0 dX3_standOf_28 rfl ?_
    refine V_getR (g := (r + 2)) (k := 1) (g' := (r + 2)) (k' := 14) hC 3 6 fl_X3_30 (okR hr_r rfl) rfl rfl rfl dX3_standOf_29 ?_
    refine V_iload_n hC 1 dX3_standOf_32 rfl ?_
    obtain ⟨hi, h⟩ := gd_some h
    refine V_iald (g := (r + 2)) (k := 14) hC (okR hr_r rfl) rfl hi dX3_standOf_33 ?_
    refine V_if_ne (tgt := 41) hC dX3_standOf_34 (by decide) (fun c2 => ?_) (fun c2 => ?_)
    · have h := it_neg c2 h
      refine V_iconst (v := 0) hC dX3_standOf_41 (by decide) ?_
      refine V_iadd hC dX3_standOf_42 ?_
      refine V_vlI h (fun v3 h => ?_)
      refine V_istore_n (lv' := [(2, .int v3), (0, .ref (ad (r + 2) 1)), (1, .int a1)]) hC dX3_standOf_43 (Nat.le_of_ble_eq_true rfl) rfl ?_
      refine V_iload_n hC 0 dX3_standOf_44 rfl ?_
      refine V_iconst (v := 1) hC dX3_standOf_45 (by decide) ?_
      refine V_icmp_ne (tgt := 53) hC dX3_standOf_46 (by decide) (fun c4 => ?_) (fun c4 => ?_)
      · have h := it_neg c4 h
        refine V_iconst (v := 0) hC dX3_standOf_53 (by decide) ?_
        exact V_iret hC hret dX3_standOf_54 h
      · have h := it_pos c4 h
        refine V_iconst (v := 2) hC dX3_standOf_49 (by decide) ?_
        refine V_goto (tgt := 54) hC dX3_standOf_50 (by decide) ?_
        exact V_iret hC hret dX3_standOf_54 h
    · have h := it_pos c2 h
      refine V_iconst (v := 1) hC dX3_standOf_37 (by decide) ?_
      refine V_goto (tgt := 42) hC dX3_standOf_38 (by decide) ?_
      refine V_iadd hC dX3_standOf_42 ?_
      refine V_vlI h (fun v5 h => ?_)
      refine V_istore_n (lv' := [(2, .int v5), (0, .ref (ad (r + 2) 1)), (1, .int a1)]) hC dX3_standOf_43 (Nat.le_of_ble_eq_true rfl) rfl ?_
      refine V_iload_n hC 0 dX3_standOf_44 rfl ?_
      refine V_iconst (v := 1) hC dX3_standOf_45 (by decide) ?_
      refine V_icmp_ne (tgt := 53) hC dX3_standOf_46 (by decide) (fun c6 => ?_) (fun c6 => ?_)
      · have h := it_neg c6 h
        refine V_iconst (v := 0) hC dX3_standOf_53 (by decide) ?_
        exact V_iret hC hret dX3_standOf_54 h
      · have h := it_pos c6 h
        refine V_iconst (v := 2) hC dX3_standOf_49 (by decide) ?_
        refine V_goto (tgt := 54) hC dX3_standOf_50 (by decide) ?_
        exact V_iret hC hret dX3_standOf_54 h
  · have h := it_pos c1 h
    refine V_iconst (v := 1) hC dX3_standOf_15 (by decide) ?_
    exact V_iret hC hret dX3_standOf_16 h
theorem c_X3_standOf (l : Launch) {nr : Nat} {r : Nat} (hr_r : r < nr) {a1 : Int32} {H : Hp} {x : Int32} {H' : Hp} (h : f_X3_standOf r a1 H = some (x, H')) : CI l nr yX3_standOf cX3_standOf 3 (some .int) 0 0 (fun ad => [.ref (ad (r + 2) 1), .int a1]) H x H' := by
  intro D K4 ad sz
  refine Met.ofV (by decide) (Nat.le_of_ble_eq_true rfl) ?_
  intro p e s m args below meth c hC hret hsz
  subst hsz
  exact s_X3_standOf hC hret hr_r h
theorem dX3_shapeOfEdge_0 : decode cX3_shapeOfEdge 0 = .ok (.iload_n 2, 1) := by decide +kernel
theorem dX3_shapeOfEdge_1 : decode cX3_shapeOfEdge 1 = .ok (.tableswitch 51 0 2 #[27, 35, 43], 27) := by decide +kernel
theorem dX3_shapeOfEdge_28 : decode cX3_shapeOfEdge 28 = .ok (.aload_n 0, 1) := by decide +kernel
theorem dX3_shapeOfEdge_29 : decode cX3_shapeOfEdge 29 = .ok (.getfield 27, 3) := by decide +kernel
theorem dX3_shapeOfEdge_32 : decode cX3_shapeOfEdge 32 = .ok (.iload_n 1, 1) := by decide +kernel
theorem dX3_shapeOfEdge_33 : decode cX3_shapeOfEdge 33 = .ok (.iaload, 1) := by decide +kernel
theorem dX3_shapeOfEdge_34 : decode cX3_shapeOfEdge 34 = .ok (.i2l, 1) := by decide +kernel
theorem dX3_shapeOfEdge_35 : decode cX3_shapeOfEdge 35 = .ok (.lreturn, 1) := by decide +kernel
theorem dX3_shapeOfEdge_36 : decode cX3_shapeOfEdge 36 = .ok (.aload_n 0, 1) := by decide +kernel
theorem dX3_shapeOfEdge_37 : decode cX3_shapeOfEdge 37 = .ok (.getfield 30, 3) := by decide +kernel
theorem dX3_shapeOfEdge_40 : decode cX3_shapeOfEdge 40 = .ok (.iload_n 1, 1) := by decide +kernel
theorem dX3_shapeOfEdge_41 : decode cX3_shapeOfEdge 41 = .ok (.iaload, 1) := by decide +kernel
theorem dX3_shapeOfEdge_42 : decode cX3_shapeOfEdge 42 = .ok (.i2l, 1) := by decide +kernel
theorem dX3_shapeOfEdge_43 : decode cX3_shapeOfEdge 43 = .ok (.lreturn, 1) := by decide +kernel
theorem dX3_shapeOfEdge_44 : decode cX3_shapeOfEdge 44 = .ok (.aload_n 0, 1) := by decide +kernel
theorem dX3_shapeOfEdge_45 : decode cX3_shapeOfEdge 45 = .ok (.getfield 33, 3) := by decide +kernel
theorem dX3_shapeOfEdge_48 : decode cX3_shapeOfEdge 48 = .ok (.iload_n 1, 1) := by decide +kernel
theorem dX3_shapeOfEdge_49 : decode cX3_shapeOfEdge 49 = .ok (.iaload, 1) := by decide +kernel
theorem dX3_shapeOfEdge_50 : decode cX3_shapeOfEdge 50 = .ok (.i2l, 1) := by decide +kernel
theorem dX3_shapeOfEdge_51 : decode cX3_shapeOfEdge 51 = .ok (.lreturn, 1) := by decide +kernel
theorem dX3_shapeOfEdge_52 : decode cX3_shapeOfEdge 52 = .ok (.aload_n 0, 1) := by decide +kernel
theorem dX3_shapeOfEdge_53 : decode cX3_shapeOfEdge 53 = .ok (.getfield 36, 3) := by decide +kernel
theorem dX3_shapeOfEdge_56 : decode cX3_shapeOfEdge 56 = .ok (.iload_n 1, 1) := by decide +kernel
theorem dX3_shapeOfEdge_57 : decode cX3_shapeOfEdge 57 = .ok (.baload, 1) := by decide +kernel
theorem dX3_shapeOfEdge_58 : decode cX3_shapeOfEdge 58 = .ok (.ifCond .eq 7, 3) := by decide +kernel
theorem dX3_shapeOfEdge_61 : decode cX3_shapeOfEdge 61 = .ok (.lconst 1, 1) := by decide +kernel
theorem dX3_shapeOfEdge_62 : decode cX3_shapeOfEdge 62 = .ok (.goto 4, 3) := by decide +kernel
theorem dX3_shapeOfEdge_65 : decode cX3_shapeOfEdge 65 = .ok (.lconst 0, 1) := by decide +kernel
theorem dX3_shapeOfEdge_66 : decode cX3_shapeOfEdge 66 = .ok (.lreturn, 1) := by decide +kernel
def f_X3_shapeOfEdge (r : Nat) (a1 : Int32) (a2 : Int32) (H : Hp) : Option (Int64 × Hp) := if a2 = 0 then gd a1 61 (some ((Int32.toInt64 (gI H (r + 2) 13 (Int32.toNatClampNeg a1))), H)) else (if a2 = 1 then gd a1 61 (some ((Int32.toInt64 (gI H (r + 2) 14 (Int32.toNatClampNeg a1))), H)) else (if a2 = 2 then gd a1 40 (some ((Int32.toInt64 (gI H (r + 2) 15 (Int32.toNatClampNeg a1))), H)) else (gd a1 40 (if (gI H (r + 2) 16 (Int32.toNatClampNeg a1)) = 0 then some (0, H) else some (1, H)))))
set_option maxRecDepth 100000 in
set_option maxHeartbeats 4000000 in
theorem s_X3_shapeOfEdge {p : Program} {l : Launch} {e : Env} {s : State} {m : MethodId} {args : Array Value} {below : List Frame} {meth : Method} {c : Code} {A : Nat → Prop} {D : va_G} {K4 : kQ} {ad : Nat → Nat → Nat} {nr : Nat} {r : Nat} {a1 : Int32} {a2 : Int32} {H : Hp} {res : Int64 × Hp} (hC : Cx p s m args c A s.heap D K4 3 RX3 cX3_shapeOfEdge) (hret : meth.sig.returnType = (some .long) ∧ meth.locks = false) (hr_r : r < nr) (h : f_X3_shapeOfEdge r a1 a2 H = some res) : V p l e ({ frames := 0, cells := 0, slots := 0, locals := 0 }) s m args below meth c A s.heap (QJ below args s A D K4 ad nr res) D K4 ad nr 3 0 [(0, .ref (ad (r + 2) 1)), (1, .int a1), (2, .int a2)] [] H := by
  unfold f_X3_shapeOfEdge at h
  refine V_iload_n hC 2 dX3_shapeOfEdge_0 rfl ?_
  by_cases c1 : a2 = 0
  · have h := it_pos c1 h
    refine V_tabE c1 ?_
    refine V_tabIn (tgt := 28) hC dX3_shapeOfEdge_1 (by decide) (by decide) rfl (by decide) ?_
    refine V_aload_n hC 0 dX3_shapeOfEdge_28 rfl ?_
    refine V_getR (g := (r + 2)) (k := 1) (g' := (r + 2)) (k' := 13) hC 3 5 fl_X3_27 (okR hr_r rfl) rfl rfl rfl dX3_shapeOfEdge_29 ?_
    refine V_iload_n hC 1 dX3_shapeOfEdge_32 rfl ?_
    obtain ⟨hi, h⟩ := gd_some h
    refine V_iald (g := (r + 2)) (k := 13) hC (okR hr_r rfl) rfl hi dX3_shapeOfEdge_33 ?_
    refine V_i2l hC dX3_shapeOfEdge_34 ?_
    exact V_lret hC hret dX3_shapeOfEdge_35 h
  · have h := it_neg c1 h
    by_cases c2 : a2 = 1
    · have h := it_pos c2 h
      refine V_tabE c2 ?_
      refine V_tabIn (tgt := 36) hC dX3_shapeOfEdge_1 (by decide) (by decide) rfl (by decide) ?_
      refine V_aload_n hC 0 dX3_shapeOfEdge_36 rfl ?_
      refine V_getR (g := (r + 2)) (k := 1) (g' := (r + 2)) (k' := 14) hC 3 6 fl_X3_30 (okR hr_r rfl) rfl rfl rfl dX3_shapeOfEdge_37 ?_
      refine V_iload_n hC 1 dX3_shapeOfEdge_40 rfl ?_
      obtain ⟨hi, h⟩ := gd_some h
      refine V_iald (g := (r + 2)) (k := 14) hC (okR hr_r rfl) rfl hi dX3_shapeOfEdge_41 ?_
      refine V_i2l hC dX3_shapeOfEdge_42 ?_
      exact V_lret hC hret dX3_shapeOfEdge_43 h
    · have h := it_neg c2 h
      by_cases c3 : a2 = 2
      · have h := it_pos c3 h
        refine V_tabE c3 ?_
        refine V_tabIn (tgt := 44) hC dX3_shapeOfEdge_1 (by decide) (by decide) rfl (by decide) ?_
        refine V_aload_n hC 0 dX3_shapeOfEdge_44 rfl ?_
        refine V_getR (g := (r + 2)) (k := 1) (g' := (r + 2)) (k' := 15) hC 3 7 fl_X3_33 (okR hr_r rfl) rfl rfl rfl dX3_shapeOfEdge_45 ?_
        refine V_iload_n hC 1 dX3_shapeOfEdge_48 rfl ?_
        obtain ⟨hi, h⟩ := gd_some h
        refine V_iald (g := (r + 2)) (k := 15) hC (okR hr_r rfl) rfl hi dX3_shapeOfEdge_49 ?_
        refine V_i2l hC dX3_shapeOfEdge_50 ?_
        exact V_lret hC hret dX3_shapeOfEdge_51 h
      · have h := it_neg c3 h
        have tc1 : Int32.toInt a2 ≠ (0 : Int) := i32ne c1
        have tc2 : Int32.toInt a2 ≠ (1 : Int) := i32ne c2
        have tc3 : Int32.toInt a2 ≠ (2 : Int) := i32ne c3
        refine V_tabOut (tgt := 52) hC dX3_shapeOfEdge_1 (by omega) (by decide) ?_
        refine V_aload_n hC 0 dX3_shapeOfEdge_52 rfl ?_
        refine V_getR (g := (r + 2)) (k := 1) (g' := (r + 2)) (k' := 16) hC 3 8 fl_X3_36 (okR hr_r rfl) rfl rfl rfl dX3_shapeOfEdge_53 ?_
        refine V_iload_n hC 1 dX3_shapeOfEdge_56 rfl ?_
        obtain ⟨hi, h⟩ := gd_some h
        refine V_zald (g := (r + 2)) (k := 16) hC (okR hr_r rfl) rfl hi dX3_shapeOfEdge_57 ?_
        refine V_if_eq (tgt := 65) hC dX3_shapeOfEdge_58 (by decide) (fun c4 => ?_) (fun c4 => ?_)
        · have h := it_pos c4 h
          refine V_lconst (v := 0) hC dX3_shapeOfEdge_65 (by decide) ?_
          exact V_lret hC hret dX3_shapeOfEdge_66 h
        · have h := it_neg c4 h
          refine V_lconst (v := 1) hC dX3_shapeOfEdge_61 (by decide) ?_
          refine V_goto (tgt := 66) hC dX3_shapeOfEdge_62 (by decide) ?_
          exact V_lret hC hret dX3_shapeOfEdge_66 h
theorem c_X3_shapeOfEdge (l : Launch) {nr : Nat} {r : Nat} (hr_r : r < nr) {a1 : Int32} {a2 : Int32} {H : Hp} {x : Int64} {H' : Hp} (h : f_X3_shapeOfEdge r a1 a2 H = some (x, H')) : CJ l nr yX3_shapeOfEdge cX3_shapeOfEdge 3 (some .long) 0 0 (fun ad => [.ref (ad (r + 2) 1), .int a1, .int a2]) H x H' := by
  intro D K4 ad sz
  refine Met.ofV (by decide) (Nat.le_of_ble_eq_true rfl) ?_
  intro p e s m args below meth c hC hret hsz
  subst hsz
  exact s_X3_shapeOfEdge hC hret hr_r h
theorem dX3_shapeOfBlock_0 : decode cX3_shapeOfBlock 0 = .ok (.iload_n 2, 1) := by decide +kernel
theorem dX3_shapeOfBlock_1 : decode cX3_shapeOfBlock 1 = .ok (.tableswitch 51 0 2 #[27, 35, 43], 27) := by decide +kernel
theorem dX3_shapeOfBlock_28 : decode cX3_shapeOfBlock 28 = .ok (.aload_n 0, 1) := by decide +kernel
theorem dX3_shapeOfBlock_29 : decode cX3_shapeOfBlock 29 = .ok (.getfield 9, 3) := by decide +kernel
theorem dX3_shapeOfBlock_32 : decode cX3_shapeOfBlock 32 = .ok (.iload_n 1, 1) := by decide +kernel
theorem dX3_shapeOfBlock_33 : decode cX3_shapeOfBlock 33 = .ok (.iaload, 1) := by decide +kernel
theorem dX3_shapeOfBlock_34 : decode cX3_shapeOfBlock 34 = .ok (.i2l, 1) := by decide +kernel
theorem dX3_shapeOfBlock_35 : decode cX3_shapeOfBlock 35 = .ok (.lreturn, 1) := by decide +kernel
theorem dX3_shapeOfBlock_36 : decode cX3_shapeOfBlock 36 = .ok (.aload_n 0, 1) := by decide +kernel
theorem dX3_shapeOfBlock_37 : decode cX3_shapeOfBlock 37 = .ok (.getfield 15, 3) := by decide +kernel
theorem dX3_shapeOfBlock_40 : decode cX3_shapeOfBlock 40 = .ok (.iload_n 1, 1) := by decide +kernel
theorem dX3_shapeOfBlock_41 : decode cX3_shapeOfBlock 41 = .ok (.iaload, 1) := by decide +kernel
theorem dX3_shapeOfBlock_42 : decode cX3_shapeOfBlock 42 = .ok (.i2l, 1) := by decide +kernel
theorem dX3_shapeOfBlock_43 : decode cX3_shapeOfBlock 43 = .ok (.lreturn, 1) := by decide +kernel
theorem dX3_shapeOfBlock_44 : decode cX3_shapeOfBlock 44 = .ok (.aload_n 0, 1) := by decide +kernel
theorem dX3_shapeOfBlock_45 : decode cX3_shapeOfBlock 45 = .ok (.getfield 18, 3) := by decide +kernel
theorem dX3_shapeOfBlock_48 : decode cX3_shapeOfBlock 48 = .ok (.iload_n 1, 1) := by decide +kernel
theorem dX3_shapeOfBlock_49 : decode cX3_shapeOfBlock 49 = .ok (.iaload, 1) := by decide +kernel
theorem dX3_shapeOfBlock_50 : decode cX3_shapeOfBlock 50 = .ok (.i2l, 1) := by decide +kernel
theorem dX3_shapeOfBlock_51 : decode cX3_shapeOfBlock 51 = .ok (.lreturn, 1) := by decide +kernel
theorem dX3_shapeOfBlock_52 : decode cX3_shapeOfBlock 52 = .ok (.aload_n 0, 1) := by decide +kernel
theorem dX3_shapeOfBlock_53 : decode cX3_shapeOfBlock 53 = .ok (.getfield 21, 3) := by decide +kernel
theorem dX3_shapeOfBlock_56 : decode cX3_shapeOfBlock 56 = .ok (.iload_n 1, 1) := by decide +kernel
theorem dX3_shapeOfBlock_57 : decode cX3_shapeOfBlock 57 = .ok (.iaload, 1) := by decide +kernel
theorem dX3_shapeOfBlock_58 : decode cX3_shapeOfBlock 58 = .ok (.i2l, 1) := by decide +kernel
theorem dX3_shapeOfBlock_59 : decode cX3_shapeOfBlock 59 = .ok (.lreturn, 1) := by decide +kernel
def f_X3_shapeOfBlock (r : Nat) (a1 : Int32) (a2 : Int32) (H : Hp) : Option (Int64 × Hp) := if a2 = 0 then gd a1 20 (some ((Int32.toInt64 (gI H (r + 2) 8 (Int32.toNatClampNeg a1))), H)) else (if a2 = 1 then gd a1 20 (some ((Int32.toInt64 (gI H (r + 2) 9 (Int32.toNatClampNeg a1))), H)) else (if a2 = 2 then gd a1 20 (some ((Int32.toInt64 (gI H (r + 2) 10 (Int32.toNatClampNeg a1))), H)) else (gd a1 20 (some ((Int32.toInt64 (gI H (r + 2) 11 (Int32.toNatClampNeg a1))), H)))))
set_option maxRecDepth 100000 in
set_option maxHeartbeats 4000000 in
theorem s_X3_shapeOfBlock {p : Program} {l : Launch} {e : Env} {s : State} {m : MethodId} {args : Array Value} {below : List Frame} {meth : Method} {c : Code} {A : Nat → Prop} {D : va_G} {K4 : kQ} {ad : Nat → Nat → Nat} {nr : Nat} {r : Nat} {a1 : Int32} {a2 : Int32} {H : Hp} {res : Int64 × Hp} (hC : Cx p s m args c A s.heap D K4 3 RX3 cX3_shapeOfBlock) (hret : meth.sig.returnType = (some .long) ∧ meth.locks = false) (hr_r : r < nr) (h : f_X3_shapeOfBlock r a1 a2 H = some res) : V p l e ({ frames := 0, cells := 0, slots := 0, locals := 0 }) s m args below meth c A s.heap (QJ below args s A D K4 ad nr res) D K4 ad nr 3 0 [(0, .ref (ad (r + 2) 1)), (1, .int a1), (2, .int a2)] [] H := by
  unfold f_X3_shapeOfBlock at h
  refine V_iload_n hC 2 dX3_shapeOfBlock_0 rfl ?_
  by_cases c1 : a2 = 0
  · have h := it_pos c1 h
    refine V_tabE c1 ?_
    refine V_tabIn (tgt := 28) hC dX3_shapeOfBlock_1 (by decide) (by decide) rfl (by decide) ?_
    refine V_aload_n hC 0 dX3_shapeOfBlock_28 rfl ?_
    refine V_getR (g := (r + 2)) (k := 1) (g' := (r + 2)) (k' := 8) hC 3 0 fl_X3_9 (okR hr_r rfl) rfl rfl rfl dX3_shapeOfBlock_29 ?_
    refine V_iload_n hC 1 dX3_shapeOfBlock_32 rfl ?_
    obtain ⟨hi, h⟩ := gd_some h
    refine V_iald (g := (r + 2)) (k := 8) hC (okR hr_r rfl) rfl hi dX3_shapeOfBlock_33 ?_
    refine V_i2l hC dX3_shapeOfBlock_34 ?_
    exact V_lret hC hret dX3_shapeOfBlock_35 h
  · have h := it_neg c1 h
    by_cases c2 : a2 = 1
    · have h := it_pos c2 h
      refine V_tabE c2 ?_
      refine V_tabIn (tgt := 36) hC dX3_shapeOfBlock_1 (by decide) (by decide) rfl (by decide) ?_
      refine V_aload_n hC 0 dX3_shapeOfBlock_36 rfl ?_
      refine V_getR (g := (r + 2)) (k := 1) (g' := (r + 2)) (k' := 9) hC 3 1 fl_X3_15 (okR hr_r rfl) rfl rfl rfl dX3_shapeOfBlock_37 ?_
      refine V_iload_n hC 1 dX3_shapeOfBlock_40 rfl ?_
      obtain ⟨hi, h⟩ := gd_some h
      refine V_iald (g := (r + 2)) (k := 9) hC (okR hr_r rfl) rfl hi dX3_shapeOfBlock_41 ?_
      refine V_i2l hC dX3_shapeOfBlock_42 ?_
      exact V_lret hC hret dX3_shapeOfBlock_43 h
    · have h := it_neg c2 h
      by_cases c3 : a2 = 2
      · have h := it_pos c3 h
        refine V_tabE c3 ?_
        refine V_tabIn (tgt := 44) hC dX3_shapeOfBlock_1 (by decide) (by decide) rfl (by decide) ?_
        refine V_aload_n hC 0 dX3_shapeOfBlock_44 rfl ?_
        refine V_getR (g := (r + 2)) (k := 1) (g' := (r + 2)) (k' := 10) hC 3 2 fl_X3_18 (okR hr_r rfl) rfl rfl rfl dX3_shapeOfBlock_45 ?_
        refine V_iload_n hC 1 dX3_shapeOfBlock_48 rfl ?_
        obtain ⟨hi, h⟩ := gd_some h
        refine V_iald (g := (r + 2)) (k := 10) hC (okR hr_r rfl) rfl hi dX3_shapeOfBlock_49 ?_
        refine V_i2l hC dX3_shapeOfBlock_50 ?_
        exact V_lret hC hret dX3_shapeOfBlock_51 h
      · have h := it_neg c3 h
        have tc1 : Int32.toInt a2 ≠ (0 : Int) := i32ne c1
        have tc2 : Int32.toInt a2 ≠ (1 : Int) := i32ne c2
        have tc3 : Int32.toInt a2 ≠ (2 : Int) := i32ne c3
        refine V_tabOut (tgt := 52) hC dX3_shapeOfBlock_1 (by omega) (by decide) ?_
        refine V_aload_n hC 0 dX3_shapeOfBlock_52 rfl ?_
        refine V_getR (g := (r + 2)) (k := 1) (g' := (r + 2)) (k' := 11) hC 3 3 fl_X3_21 (okR hr_r rfl) rfl rfl rfl dX3_shapeOfBlock_53 ?_
        refine V_iload_n hC 1 dX3_shapeOfBlock_56 rfl ?_
        obtain ⟨hi, h⟩ := gd_some h
        refine V_iald (g := (r + 2)) (k := 11) hC (okR hr_r rfl) rfl hi dX3_shapeOfBlock_57 ?_
        refine V_i2l hC dX3_shapeOfBlock_58 ?_
        exact V_lret hC hret dX3_shapeOfBlock_59 h
theorem c_X3_shapeOfBlock (l : Launch) {nr : Nat} {r : Nat} (hr_r : r < nr) {a1 : Int32} {a2 : Int32} {H : Hp} {x : Int64} {H' : Hp} (h : f_X3_shapeOfBlock r a1 a2 H = some (x, H')) : CJ l nr yX3_shapeOfBlock cX3_shapeOfBlock 3 (some .long) 0 0 (fun ad => [.ref (ad (r + 2) 1), .int a1, .int a2]) H x H' := by
  intro D K4 ad sz
  refine Met.ofV (by decide) (Nat.le_of_ble_eq_true rfl) ?_
  intro p e s m args below meth c hC hret hsz
  subst hsz
  exact s_X3_shapeOfBlock hC hret hr_r h
theorem dX0_clear_0 : decode cX0_clear 0 = .ok (.iconst 0, 1) := by decide +kernel
theorem dX0_clear_1 : decode cX0_clear 1 = .ok (.istore_n 1, 1) := by decide +kernel
theorem dX0_clear_2 : decode cX0_clear 2 = .ok (.iload_n 1, 1) := by decide +kernel
theorem dX0_clear_3 : decode cX0_clear 3 = .ok (.bipush 40, 2) := by decide +kernel
theorem dX0_clear_5 : decode cX0_clear 5 = .ok (.if_icmp .ge 23, 3) := by decide +kernel
theorem dX0_clear_8 : decode cX0_clear 8 = .ok (.aload_n 0, 1) := by decide +kernel
theorem dX0_clear_9 : decode cX0_clear 9 = .ok (.getfield 9, 3) := by decide +kernel
theorem dX0_clear_12 : decode cX0_clear 12 = .ok (.iload_n 1, 1) := by decide +kernel
theorem dX0_clear_13 : decode cX0_clear 13 = .ok (.lconst 0, 1) := by decide +kernel
theorem dX0_clear_14 : decode cX0_clear 14 = .ok (.lastore, 1) := by decide +kernel
theorem dX0_clear_15 : decode cX0_clear 15 = .ok (.aload_n 0, 1) := by decide +kernel
theorem dX0_clear_16 : decode cX0_clear 16 = .ok (.getfield 15, 3) := by decide +kernel
theorem dX0_clear_19 : decode cX0_clear 19 = .ok (.iload_n 1, 1) := by decide +kernel
theorem dX0_clear_20 : decode cX0_clear 20 = .ok (.lconst 0, 1) := by decide +kernel
theorem dX0_clear_21 : decode cX0_clear 21 = .ok (.lastore, 1) := by decide +kernel
theorem dX0_clear_22 : decode cX0_clear 22 = .ok (.iinc 1 1, 3) := by decide +kernel
theorem dX0_clear_25 : decode cX0_clear 25 = .ok (.goto (-23), 3) := by decide +kernel
theorem dX0_clear_28 : decode cX0_clear 28 = .ok (.iconst 0, 1) := by decide +kernel
theorem dX0_clear_29 : decode cX0_clear 29 = .ok (.istore_n 1, 1) := by decide +kernel
theorem dX0_clear_30 : decode cX0_clear 30 = .ok (.iload_n 1, 1) := by decide +kernel
theorem dX0_clear_31 : decode cX0_clear 31 = .ok (.bipush 20, 2) := by decide +kernel
theorem dX0_clear_33 : decode cX0_clear 33 = .ok (.if_icmp .ge 16, 3) := by decide +kernel
theorem dX0_clear_36 : decode cX0_clear 36 = .ok (.aload_n 0, 1) := by decide +kernel
theorem dX0_clear_37 : decode cX0_clear 37 = .ok (.getfield 18, 3) := by decide +kernel
theorem dX0_clear_40 : decode cX0_clear 40 = .ok (.iload_n 1, 1) := by decide +kernel
theorem dX0_clear_41 : decode cX0_clear 41 = .ok (.lconst 0, 1) := by decide +kernel
theorem dX0_clear_42 : decode cX0_clear 42 = .ok (.lastore, 1) := by decide +kernel
theorem dX0_clear_43 : decode cX0_clear 43 = .ok (.iinc 1 1, 3) := by decide +kernel
theorem dX0_clear_46 : decode cX0_clear 46 = .ok (.goto (-16), 3) := by decide +kernel
theorem dX0_clear_49 : decode cX0_clear 49 = .ok (.aload_n 0, 1) := by decide +kernel
theorem dX0_clear_50 : decode cX0_clear 50 = .ok (.lconst 0, 1) := by decide +kernel
theorem dX0_clear_51 : decode cX0_clear 51 = .ok (.putfield 21, 3) := by decide +kernel
theorem dX0_clear_54 : decode cX0_clear 54 = .ok (.aload_n 0, 1) := by decide +kernel
theorem dX0_clear_55 : decode cX0_clear 55 = .ok (.lconst 0, 1) := by decide +kernel
theorem dX0_clear_56 : decode cX0_clear 56 = .ok (.putfield 25, 3) := by decide +kernel
theorem dX0_clear_59 : decode cX0_clear 59 = .ok (.return_, 1) := by decide +kernel
def L_X0_clear_2 (r : Nat) (k : Hp → Option (Unit × Hp)) : Nat → Int32 → Hp → Option (Unit × Hp)
  | 0, _, _ => none
  | n + 1, x1, H => if 40 ≤ x1 then k H else gd x1 40 (hl (sJ H (r + 2) 34 (Int32.toNatClampNeg x1) 0) (fun (H2 : Hp) => gd x1 40 (hl (sJ H2 (r + 2) 35 (Int32.toNatClampNeg x1) 0) (fun (H3 : Hp) => vl (x1 + (1 : Int32)) (fun (v4 : Int32) => L_X0_clear_2 r k n v4 H3)))))
set_option maxRecDepth 100000 in
set_option maxHeartbeats 4000000 in
theorem sL_X0_clear_2 {p : Program} {l : Launch} {e : Env} {s : State} {m : MethodId} {args : Array Value} {below : List Frame} {meth : Method} {c : Code} {A : Nat → Prop} {D : va_G} {K4 : kQ} {ad : Nat → Nat → Nat} {nr : Nat} {r : Nat} {k : Hp → Option (Unit × Hp)} {res : Unit × Hp} (hC : Cx p s m args c A s.heap D K4 2 RX0 cX0_clear) (hret : meth.sig.returnType = none ∧ meth.locks = false) (hr_r : r < nr) (hk : ∀ (H : Hp), k H = some res → V p l e ({ frames := 0, cells := 0, slots := 0, locals := 0 }) s m args below meth c A s.heap (QU below args s A D K4 ad nr res) D K4 ad nr 2 28 [(0, .ref (ad (r + 2) 4))] [] H) : ∀ (n : Nat) (x1 : Int32) (H : Hp), L_X0_clear_2 r k n x1 H = some res → V p l e ({ frames := 0, cells := 0, slots := 0, locals := 0 }) s m args below meth c A s.heap (QU below args s A D K4 ad nr res) D K4 ad nr 2 2 [(0, .ref (ad (r + 2) 4)), (1, .int x1)] [] H := by
  intro n
  induction n with
  | zero => intro x1 H h; exact nomatch (show (none : Option (Unit × Hp)) = some res from h)
  | succ n ih =>
    intro x1 H h
    rw [L_X0_clear_2] at h
    refine V_iload_n hC 1 dX0_clear_2 rfl ?_
    refine V_bipush (v := 40) hC dX0_clear_3 (by decide) ?_
    refine V_icmp_ge (tgt := 28) hC dX0_clear_5 (by decide) (fun c1 => ?_) (fun c1 => ?_)
    · have h := it_pos c1 h
      refine V_lv (lv' := [(0, .ref (ad (r + 2) 4))]) [0] rfl ?_
      exact hk H h
    · have h := it_neg c1 h
      refine V_aload_n hC 0 dX0_clear_8 rfl ?_
      refine V_getR (g := (r + 2)) (k := 4) (g' := (r + 2)) (k' := 34) hC 0 0 fl_X0_9 (okR hr_r rfl) rfl rfl rfl dX0_clear_9 ?_
      refine V_iload_n hC 1 dX0_clear_12 rfl ?_
      refine V_lconst (v := 0) hC dX0_clear_13 (by decide) ?_
      obtain ⟨hi, h⟩ := gd_some h
      refine V_last (g := (r + 2)) (k := 34) hC (okR hr_r rfl) rfl hi dX0_clear_14 ?_
      refine V_hl h (fun H2 h => ?_)
      refine V_aload_n hC 0 dX0_clear_15 rfl ?_
      refine V_getR (g := (r + 2)) (k := 4) (g' := (r + 2)) (k' := 35) hC 0 1 fl_X0_15 (okR hr_r rfl) rfl rfl rfl dX0_clear_16 ?_
      refine V_iload_n hC 1 dX0_clear_19 rfl ?_
      refine V_lconst (v := 0) hC dX0_clear_20 (by decide) ?_
      obtain ⟨hi, h⟩ := gd_some h
      refine V_last (g := (r + 2)) (k := 35) hC (okR hr_r rfl) rfl hi dX0_clear_21 ?_
      refine V_hl h (fun H3 h => ?_)
      refine V_vi h (fun v4 hvv4 h => ?_)
      refine V_iinc (v := v4) (lv' := [(1, .int v4), (0, .ref (ad (r + 2) 4))]) hC 1 dX0_clear_22 rfl hvv4.symm (Nat.le_of_ble_eq_true rfl) rfl ?_
      refine V_goto (tgt := 2) hC dX0_clear_25 (by decide) ?_
      refine V_lv (lv' := [(0, .ref (ad (r + 2) 4)), (1, .int v4)]) [1, 0] rfl ?_
      exact ih v4 H3 h
def L_X0_clear_30 (r : Nat) (k : Hp → Option (Unit × Hp)) : Nat → Int32 → Hp → Option (Unit × Hp)
  | 0, _, _ => none
  | n + 1, x1, H => if 20 ≤ x1 then k H else gd x1 20 (hl (sJ H (r + 2) 36 (Int32.toNatClampNeg x1) 0) (fun (H7 : Hp) => vl (x1 + (1 : Int32)) (fun (v8 : Int32) => L_X0_clear_30 r k n v8 H7)))
set_option maxRecDepth 100000 in
set_option maxHeartbeats 4000000 in
theorem sL_X0_clear_30 {p : Program} {l : Launch} {e : Env} {s : State} {m : MethodId} {args : Array Value} {below : List Frame} {meth : Method} {c : Code} {A : Nat → Prop} {D : va_G} {K4 : kQ} {ad : Nat → Nat → Nat} {nr : Nat} {r : Nat} {k : Hp → Option (Unit × Hp)} {res : Unit × Hp} (hC : Cx p s m args c A s.heap D K4 2 RX0 cX0_clear) (hret : meth.sig.returnType = none ∧ meth.locks = false) (hr_r : r < nr) (hk : ∀ (H : Hp), k H = some res → V p l e ({ frames := 0, cells := 0, slots := 0, locals := 0 }) s m args below meth c A s.heap (QU below args s A D K4 ad nr res) D K4 ad nr 2 49 [(0, .ref (ad (r + 2) 4))] [] H) : ∀ (n : Nat) (x1 : Int32) (H : Hp), L_X0_clear_30 r k n x1 H = some res → V p l e ({ frames := 0, cells := 0, slots := 0, locals := 0 }) s m args below meth c A s.heap (QU below args s A D K4 ad nr res) D K4 ad nr 2 30 [(0, .ref (ad (r + 2) 4)), (1, .int x1)] [] H := by
  intro n
  induction n with
  | zero => intro x1 H h; exact nomatch (show (none : Option (Unit × Hp)) = some res from h)
  | succ n ih =>
    intro x1 H h
    rw [L_X0_clear_30] at h
    refine V_iload_n hC 1 dX0_clear_30 rfl ?_
    refine V_bipush (v := 20) hC dX0_clear_31 (by decide) ?_
    refine V_icmp_ge (tgt := 49) hC dX0_clear_33 (by decide) (fun c6 => ?_) (fun c6 => ?_)
    · have h := it_pos c6 h
      refine V_lv (lv' := [(0, .ref (ad (r + 2) 4))]) [0] rfl ?_
      exact hk H h
    · have h := it_neg c6 h
      refine V_aload_n hC 0 dX0_clear_36 rfl ?_
      refine V_getR (g := (r + 2)) (k := 4) (g' := (r + 2)) (k' := 36) hC 0 2 fl_X0_18 (okR hr_r rfl) rfl rfl rfl dX0_clear_37 ?_
      refine V_iload_n hC 1 dX0_clear_40 rfl ?_
      refine V_lconst (v := 0) hC dX0_clear_41 (by decide) ?_
      obtain ⟨hi, h⟩ := gd_some h
      refine V_last (g := (r + 2)) (k := 36) hC (okR hr_r rfl) rfl hi dX0_clear_42 ?_
      refine V_hl h (fun H7 h => ?_)
      refine V_vi h (fun v8 hvv8 h => ?_)
      refine V_iinc (v := v8) (lv' := [(1, .int v8), (0, .ref (ad (r + 2) 4))]) hC 1 dX0_clear_43 rfl hvv8.symm (Nat.le_of_ble_eq_true rfl) rfl ?_
      refine V_goto (tgt := 30) hC dX0_clear_46 (by decide) ?_
      refine V_lv (lv' := [(0, .ref (ad (r + 2) 4)), (1, .int v8)]) [1, 0] rfl ?_
      exact ih v8 H7 h
def f_X0_clear (r : Nat) (H : Hp) : Option (Unit × Hp) := L_X0_clear_2 r (fun (H5 : Hp) => L_X0_clear_30 r (fun (H9 : Hp) => hl (sJ H9 (r + 2) 4 3 0) (fun (H10 : Hp) => hl (sJ H10 (r + 2) 4 4 0) (fun (H11 : Hp) => some ((), H11)))) FU 0 H5) FU 0 H
set_option maxRecDepth 100000 in
set_option maxHeartbeats 4000000 in
theorem s_X0_clear {p : Program} {l : Launch} {e : Env} {s : State} {m : MethodId} {args : Array Value} {below : List Frame} {meth : Method} {c : Code} {A : Nat → Prop} {D : va_G} {K4 : kQ} {ad : Nat → Nat → Nat} {nr : Nat} {r : Nat} {H : Hp} {res : Unit × Hp} (hC : Cx p s m args c A s.heap D K4 2 RX0 cX0_clear) (hret : meth.sig.returnType = none ∧ meth.locks = false) (hr_r : r < nr) (h : f_X0_clear r H = some res) : V p l e ({ frames := 0, cells := 0, slots := 0, locals := 0 }) s m args below meth c A s.heap (QU below args s A D K4 ad nr res) D K4 ad nr 2 0 [(0, .ref (ad (r + 2) 4))] [] H := by
  unfold f_X0_clear at h
  refine V_iconst (v := 0) hC dX0_clear_0 (by decide) ?_
  refine V_istore_n (lv' := [(1, .int 0), (0, .ref (ad (r + 2) 4))]) hC dX0_clear_1 (Nat.le_of_ble_eq_true rfl) rfl ?_
  refine V_lv (lv' := [(0, .ref (ad (r + 2) 4)), (1, .int 0)]) [1, 0] rfl ?_
  refine sL_X0_clear_2 hC hret hr_r (fun H5 h => ?_) _ 0 H h
  refine V_iconst (v := 0) hC dX0_clear_28 (by decide) ?_
  refine V_istore_n (lv' := [(1, .int 0), (0, .ref (ad (r + 2) 4))]) hC dX0_clear_29 (Nat.le_of_ble_eq_true rfl) rfl ?_
  refine V_lv (lv' := [(0, .ref (ad (r + 2) 4)), (1, .int 0)]) [1, 0] rfl ?_
  refine sL_X0_clear_30 hC hret hr_r (fun H9 h => ?_) _ 0 H5 h
  refine V_aload_n hC 0 dX0_clear_49 rfl ?_
  refine V_lconst (v := 0) hC dX0_clear_50 (by decide) ?_
  refine V_putJ (g := (r + 2)) (k := 4) hC 0 3 .long fw_X0_21 (okR hr_r rfl) rfl rfl rfl rfl dX0_clear_51 ?_
  refine V_hl h (fun H10 h => ?_)
  refine V_aload_n hC 0 dX0_clear_54 rfl ?_
  refine V_lconst (v := 0) hC dX0_clear_55 (by decide) ?_
  refine V_putJ (g := (r + 2)) (k := 4) hC 0 4 .long fw_X0_25 (okR hr_r rfl) rfl rfl rfl rfl dX0_clear_56 ?_
  refine V_hl h (fun H11 h => ?_)
  exact V_vret hC hret dX0_clear_59 h
theorem c_X0_clear (l : Launch) {nr : Nat} {r : Nat} (hr_r : r < nr) {H : Hp} {x : Unit} {H' : Hp} (h : f_X0_clear r H = some (x, H')) : CU l nr yX0_clear cX0_clear 2 none 0 0 (fun ad => [.ref (ad (r + 2) 4)]) H x H' := by
  intro D K4 ad sz
  refine Met.ofV (by decide) (Nat.le_of_ble_eq_true rfl) ?_
  intro p e s m args below meth c hC hret hsz
  subst hsz
  exact s_X0_clear hC hret hr_r h
theorem dX4_clear_0 : decode cX4_clear 0 = .ok (.aload_n 0, 1) := by decide +kernel
theorem dX4_clear_1 : decode cX4_clear 1 = .ok (.iconst 0, 1) := by decide +kernel
theorem dX4_clear_2 : decode cX4_clear 2 = .ok (.putfield 18, 3) := by decide +kernel
theorem dX4_clear_5 : decode cX4_clear 5 = .ok (.aload_n 0, 1) := by decide +kernel
theorem dX4_clear_6 : decode cX4_clear 6 = .ok (.lconst 0, 1) := by decide +kernel
theorem dX4_clear_7 : decode cX4_clear 7 = .ok (.putfield 22, 3) := by decide +kernel
theorem dX4_clear_10 : decode cX4_clear 10 = .ok (.return_, 1) := by decide +kernel
def f_X4_clear (r : Nat) (H : Hp) : Option (Unit × Hp) := hl (sI H (r + 2) 5 2 0) (fun (H1 : Hp) => hl (sJ H1 (r + 2) 5 3 0) (fun (H2 : Hp) => some ((), H2)))
set_option maxRecDepth 100000 in
set_option maxHeartbeats 4000000 in
theorem s_X4_clear {p : Program} {l : Launch} {e : Env} {s : State} {m : MethodId} {args : Array Value} {below : List Frame} {meth : Method} {c : Code} {A : Nat → Prop} {D : va_G} {K4 : kQ} {ad : Nat → Nat → Nat} {nr : Nat} {r : Nat} {H : Hp} {res : Unit × Hp} (hC : Cx p s m args c A s.heap D K4 1 RX4 cX4_clear) (hret : meth.sig.returnType = none ∧ meth.locks = false) (hr_r : r < nr) (h : f_X4_clear r H = some res) : V p l e ({ frames := 0, cells := 0, slots := 0, locals := 0 }) s m args below meth c A s.heap (QU below args s A D K4 ad nr res) D K4 ad nr 1 0 [(0, .ref (ad (r + 2) 5))] [] H := by
  unfold f_X4_clear at h
  refine V_aload_n hC 0 dX4_clear_0 rfl ?_
  refine V_iconst (v := 0) hC dX4_clear_1 (by decide) ?_
  refine V_putI (g := (r + 2)) (k := 5) hC 4 2 .int fw_X4_18 (okR hr_r rfl) rfl rfl rfl rfl dX4_clear_2 ?_
  refine V_hl h (fun H1 h => ?_)
  refine V_aload_n hC 0 dX4_clear_5 rfl ?_
  refine V_lconst (v := 0) hC dX4_clear_6 (by decide) ?_
  refine V_putJ (g := (r + 2)) (k := 5) hC 4 3 .long fw_X4_22 (okR hr_r rfl) rfl rfl rfl rfl dX4_clear_7 ?_
  refine V_hl h (fun H2 h => ?_)
  exact V_vret hC hret dX4_clear_10 h
theorem c_X4_clear (l : Launch) {nr : Nat} {r : Nat} (hr_r : r < nr) {H : Hp} {x : Unit} {H' : Hp} (h : f_X4_clear r H = some (x, H')) : CU l nr yX4_clear cX4_clear 1 none 0 0 (fun ad => [.ref (ad (r + 2) 5)]) H x H' := by
  intro D K4 ad sz
  refine Met.ofV (by decide) (Nat.le_of_ble_eq_true rfl) ?_
  intro p e s m args below meth c hC hret hsz
  subst hsz
  exact s_X4_clear hC hret hr_r h
theorem dX4_count_0 : decode cX4_count 0 = .ok (.iconst 0, 1) := by decide +kernel
theorem dX4_count_1 : decode cX4_count 1 = .ok (.istore_n 3, 1) := by decide +kernel
theorem dX4_count_2 : decode cX4_count 2 = .ok (.iload_n 3, 1) := by decide +kernel
theorem dX4_count_3 : decode cX4_count 3 = .ok (.aload_n 0, 1) := by decide +kernel
theorem dX4_count_4 : decode cX4_count 4 = .ok (.getfield 18, 3) := by decide +kernel
theorem dX4_count_7 : decode cX4_count 7 = .ok (.if_icmp .ge 31, 3) := by decide +kernel
theorem dX4_count_10 : decode cX4_count 10 = .ok (.aload_n 0, 1) := by decide +kernel
theorem dX4_count_11 : decode cX4_count 11 = .ok (.getfield 9, 3) := by decide +kernel
theorem dX4_count_14 : decode cX4_count 14 = .ok (.iload_n 3, 1) := by decide +kernel
theorem dX4_count_15 : decode cX4_count 15 = .ok (.laload, 1) := by decide +kernel
theorem dX4_count_16 : decode cX4_count 16 = .ok (.lload_n 1, 1) := by decide +kernel
theorem dX4_count_17 : decode cX4_count 17 = .ok (.lcmp, 1) := by decide +kernel
theorem dX4_count_18 : decode cX4_count 18 = .ok (.ifCond .ne 14, 3) := by decide +kernel
theorem dX4_count_21 : decode cX4_count 21 = .ok (.aload_n 0, 1) := by decide +kernel
theorem dX4_count_22 : decode cX4_count 22 = .ok (.getfield 15, 3) := by decide +kernel
theorem dX4_count_25 : decode cX4_count 25 = .ok (.iload_n 3, 1) := by decide +kernel
theorem dX4_count_26 : decode cX4_count 26 = .ok (.dup2, 1) := by decide +kernel
theorem dX4_count_27 : decode cX4_count 27 = .ok (.laload, 1) := by decide +kernel
theorem dX4_count_28 : decode cX4_count 28 = .ok (.lconst 1, 1) := by decide +kernel
theorem dX4_count_29 : decode cX4_count 29 = .ok (.ladd, 1) := by decide +kernel
theorem dX4_count_30 : decode cX4_count 30 = .ok (.lastore, 1) := by decide +kernel
theorem dX4_count_31 : decode cX4_count 31 = .ok (.return_, 1) := by decide +kernel
theorem dX4_count_32 : decode cX4_count 32 = .ok (.iinc 3 1, 3) := by decide +kernel
theorem dX4_count_35 : decode cX4_count 35 = .ok (.goto (-33), 3) := by decide +kernel
theorem dX4_count_38 : decode cX4_count 38 = .ok (.aload_n 0, 1) := by decide +kernel
theorem dX4_count_39 : decode cX4_count 39 = .ok (.getfield 18, 3) := by decide +kernel
theorem dX4_count_42 : decode cX4_count 42 = .ok (.bipush 16, 2) := by decide +kernel
theorem dX4_count_44 : decode cX4_count 44 = .ok (.if_icmp .lt 14, 3) := by decide +kernel
theorem dX4_count_47 : decode cX4_count 47 = .ok (.aload_n 0, 1) := by decide +kernel
theorem dX4_count_48 : decode cX4_count 48 = .ok (.dup, 1) := by decide +kernel
theorem dX4_count_49 : decode cX4_count 49 = .ok (.getfield 22, 3) := by decide +kernel
theorem dX4_count_52 : decode cX4_count 52 = .ok (.lconst 1, 1) := by decide +kernel
theorem dX4_count_53 : decode cX4_count 53 = .ok (.ladd, 1) := by decide +kernel
theorem dX4_count_54 : decode cX4_count 54 = .ok (.putfield 22, 3) := by decide +kernel
theorem dX4_count_57 : decode cX4_count 57 = .ok (.return_, 1) := by decide +kernel
theorem dX4_count_58 : decode cX4_count 58 = .ok (.aload_n 0, 1) := by decide +kernel
theorem dX4_count_59 : decode cX4_count 59 = .ok (.getfield 9, 3) := by decide +kernel
theorem dX4_count_62 : decode cX4_count 62 = .ok (.aload_n 0, 1) := by decide +kernel
theorem dX4_count_63 : decode cX4_count 63 = .ok (.getfield 18, 3) := by decide +kernel
theorem dX4_count_66 : decode cX4_count 66 = .ok (.lload_n 1, 1) := by decide +kernel
theorem dX4_count_67 : decode cX4_count 67 = .ok (.lastore, 1) := by decide +kernel
theorem dX4_count_68 : decode cX4_count 68 = .ok (.aload_n 0, 1) := by decide +kernel
theorem dX4_count_69 : decode cX4_count 69 = .ok (.getfield 15, 3) := by decide +kernel
theorem dX4_count_72 : decode cX4_count 72 = .ok (.aload_n 0, 1) := by decide +kernel
theorem dX4_count_73 : decode cX4_count 73 = .ok (.getfield 18, 3) := by decide +kernel
theorem dX4_count_76 : decode cX4_count 76 = .ok (.lconst 1, 1) := by decide +kernel
theorem dX4_count_77 : decode cX4_count 77 = .ok (.lastore, 1) := by decide +kernel
theorem dX4_count_78 : decode cX4_count 78 = .ok (.aload_n 0, 1) := by decide +kernel
theorem dX4_count_79 : decode cX4_count 79 = .ok (.dup, 1) := by decide +kernel
theorem dX4_count_80 : decode cX4_count 80 = .ok (.getfield 18, 3) := by decide +kernel
theorem dX4_count_83 : decode cX4_count 83 = .ok (.iconst 1, 1) := by decide +kernel
theorem dX4_count_84 : decode cX4_count 84 = .ok (.iadd, 1) := by decide +kernel
theorem dX4_count_85 : decode cX4_count 85 = .ok (.putfield 18, 3) := by decide +kernel
theorem dX4_count_88 : decode cX4_count 88 = .ok (.return_, 1) := by decide +kernel
def L_X4_count_2 (r : Nat) (b1 : Int64) (k : Hp → Option (Unit × Hp)) : Nat → Int32 → Hp → Option (Unit × Hp)
  | 0, _, _ => none
  | n + 1, x3, H => if (gI H (r + 2) 5 2) ≤ x3 then k H else gd x3 16 (if (lg_cmp (gJ H (r + 2) 37 (Int32.toNatClampNeg x3)) b1) = 0 then gd x3 16 (gd x3 16 (hl (sJ H (r + 2) 38 (Int32.toNatClampNeg x3) ((gJ H (r + 2) 38 (Int32.toNatClampNeg x3)) + 1)) (fun (H4 : Hp) => some ((), H4)))) else vl (x3 + (1 : Int32)) (fun (v3 : Int32) => L_X4_count_2 r b1 k n v3 H))
set_option maxRecDepth 100000 in
set_option maxHeartbeats 4000000 in
theorem sL_X4_count_2 {p : Program} {l : Launch} {e : Env} {s : State} {m : MethodId} {args : Array Value} {below : List Frame} {meth : Method} {c : Code} {A : Nat → Prop} {D : va_G} {K4 : kQ} {ad : Nat → Nat → Nat} {nr : Nat} {r : Nat} {b1 : Int64} {k : Hp → Option (Unit × Hp)} {res : Unit × Hp} (hC : Cx p s m args c A s.heap D K4 4 RX4 cX4_count) (hret : meth.sig.returnType = none ∧ meth.locks = false) (hr_r : r < nr) (hk : ∀ (H : Hp), k H = some res → V p l e ({ frames := 0, cells := 0, slots := 0, locals := 0 }) s m args below meth c A s.heap (QU below args s A D K4 ad nr res) D K4 ad nr 4 38 [(0, .ref (ad (r + 2) 5)), (1, .long b1)] [] H) : ∀ (n : Nat) (x3 : Int32) (H : Hp), L_X4_count_2 r b1 k n x3 H = some res → V p l e ({ frames := 0, cells := 0, slots := 0, locals := 0 }) s m args below meth c A s.heap (QU below args s A D K4 ad nr res) D K4 ad nr 4 2 [(0, .ref (ad (r + 2) 5)), (1, .long b1), (3, .int x3)] [] H := by
  intro n
  induction n with
  | zero => intro x3 H h; exact nomatch (show (none : Option (Unit × Hp)) = some res from h)
  | succ n ih =>
    intro x3 H h
    rw [L_X4_count_2] at h
    refine V_iload_n hC 2 dX4_count_2 rfl ?_
    refine V_aload_n hC 0 dX4_count_3 rfl ?_
    refine V_getI (g := (r + 2)) (k := 5) hC 4 2 fl_X4_18 (okR hr_r rfl) rfl rfl dX4_count_4 ?_
    refine V_icmp_ge (tgt := 38) hC dX4_count_7 (by decide) (fun c1 => ?_) (fun c1 => ?_)
    · have h := it_pos c1 h
      refine V_lv (lv' := [(0, .ref (ad (r + 2) 5)), (1, .long b1)]) [0, 1] rfl ?_
      exact hk H h
    · have h := it_neg c1 h
      refine V_aload_n hC 0 dX4_count_10 rfl ?_
      refine V_getR (g := (r + 2)) (k := 5) (g' := (r + 2)) (k' := 37) hC 4 0 fl_X4_9 (okR hr_r rfl) rfl rfl rfl dX4_count_11 ?_
      refine V_iload_n hC 2 dX4_count_14 rfl ?_
      obtain ⟨hi, h⟩ := gd_some h
      refine V_lald (g := (r + 2)) (k := 37) hC (okR hr_r rfl) rfl hi dX4_count_15 ?_
      refine V_lload_n hC 1 dX4_count_16 rfl ?_
      refine V_lcmp hC dX4_count_17 ?_
      refine V_if_ne (tgt := 32) hC dX4_count_18 (by decide) (fun c2 => ?_) (fun c2 => ?_)
      · have h := it_neg c2 h
        refine V_vi h (fun v3 hvv3 h => ?_)
        refine V_iinc (v := v3) (lv' := [(3, .int v3), (0, .ref (ad (r + 2) 5)), (1, .long b1)]) hC 2 dX4_count_32 rfl hvv3.symm (Nat.le_of_ble_eq_true rfl) rfl ?_
        refine V_goto (tgt := 2) hC dX4_count_35 (by decide) ?_
        refine V_lv (lv' := [(0, .ref (ad (r + 2) 5)), (1, .long b1), (3, .int v3)]) [1, 2, 0] rfl ?_
        exact ih v3 H h
      · have h := it_pos c2 h
        refine V_aload_n hC 0 dX4_count_21 rfl ?_
        refine V_getR (g := (r + 2)) (k := 5) (g' := (r + 2)) (k' := 38) hC 4 1 fl_X4_15 (okR hr_r rfl) rfl rfl rfl dX4_count_22 ?_
        refine V_iload_n hC 2 dX4_count_25 rfl ?_
        refine V_dup2 hC dX4_count_26 rfl rfl ?_
        obtain ⟨hi, h⟩ := gd_some h
        refine V_lald (g := (r + 2)) (k := 38) hC (okR hr_r rfl) rfl hi dX4_count_27 ?_
        refine V_lconst (v := 1) hC dX4_count_28 (by decide) ?_
        refine V_ladd hC dX4_count_29 ?_
        obtain ⟨hi, h⟩ := gd_some h
        refine V_last (g := (r + 2)) (k := 38) hC (okR hr_r rfl) rfl hi dX4_count_30 ?_
        refine V_hl h (fun H4 h => ?_)
        exact V_vret hC hret dX4_count_31 h
def f_X4_count (r : Nat) (a1 : Int64) (H : Hp) : Option (Unit × Hp) := L_X4_count_2 r a1 (fun (H5 : Hp) => if (gI H5 (r + 2) 5 2) < 16 then gd (gI H5 (r + 2) 5 2) 16 (hl (sJ H5 (r + 2) 37 (Int32.toNatClampNeg (gI H5 (r + 2) 5 2)) a1) (fun (H7 : Hp) => gd (gI H7 (r + 2) 5 2) 16 (hl (sJ H7 (r + 2) 38 (Int32.toNatClampNeg (gI H7 (r + 2) 5 2)) 1) (fun (H8 : Hp) => hl (sI H8 (r + 2) 5 2 ((gI H8 (r + 2) 5 2) + 1)) (fun (H9 : Hp) => some ((), H9)))))) else hl (sJ H5 (r + 2) 5 3 ((gJ H5 (r + 2) 5 3) + 1)) (fun (H10 : Hp) => some ((), H10))) FU 0 H
set_option maxRecDepth 100000 in
set_option maxHeartbeats 4000000 in
theorem s_X4_count {p : Program} {l : Launch} {e : Env} {s : State} {m : MethodId} {args : Array Value} {below : List Frame} {meth : Method} {c : Code} {A : Nat → Prop} {D : va_G} {K4 : kQ} {ad : Nat → Nat → Nat} {nr : Nat} {r : Nat} {a1 : Int64} {H : Hp} {res : Unit × Hp} (hC : Cx p s m args c A s.heap D K4 4 RX4 cX4_count) (hret : meth.sig.returnType = none ∧ meth.locks = false) (hr_r : r < nr) (h : f_X4_count r a1 H = some res) : V p l e ({ frames := 0, cells := 0, slots := 0, locals := 0 }) s m args below meth c A s.heap (QU below args s A D K4 ad nr res) D K4 ad nr 4 0 [(0, .ref (ad (r + 2) 5)), (1, .long a1)] [] H := by
  unfold f_X4_count at h
  refine V_iconst (v := 0) hC dX4_count_0 (by decide) ?_
  refine V_istore_n (lv' := [(3, .int 0), (0, .ref (ad (r + 2) 5)), (1, .long a1)]) hC dX4_count_1 (Nat.le_of_ble_eq_true rfl) rfl ?_
  refine V_lv (lv' := [(0, .ref (ad (r + 2) 5)), (1, .long a1), (3, .int 0)]) [1, 2, 0] rfl ?_
  refine sL_X4_count_2 hC hret hr_r (fun H5 h => ?_) _ 0 H h
  refine V_aload_n hC 0 dX4_count_38 rfl ?_
  refine V_getI (g := (r + 2)) (k := 5) hC 4 2 fl_X4_18 (okR hr_r rfl) rfl rfl dX4_count_39 ?_
  refine V_bipush (v := 16) hC dX4_count_42 (by decide) ?_
  refine V_icmp_lt (tgt := 58) hC dX4_count_44 (by decide) (fun c6 => ?_) (fun c6 => ?_)
  · have h := it_pos c6 h
    refine V_aload_n hC 0 dX4_count_58 rfl ?_
    refine V_getR (g := (r + 2)) (k := 5) (g' := (r + 2)) (k' := 37) hC 4 0 fl_X4_9 (okR hr_r rfl) rfl rfl rfl dX4_count_59 ?_
    refine V_aload_n hC 0 dX4_count_62 rfl ?_
    refine V_getI (g := (r + 2)) (k := 5) hC 4 2 fl_X4_18 (okR hr_r rfl) rfl rfl dX4_count_63 ?_
    refine V_lload_n hC 1 dX4_count_66 rfl ?_
    obtain ⟨hi, h⟩ := gd_some h
    refine V_last (g := (r + 2)) (k := 37) hC (okR hr_r rfl) rfl hi dX4_count_67 ?_
    refine V_hl h (fun H7 h => ?_)
    refine V_aload_n hC 0 dX4_count_68 rfl ?_
    refine V_getR (g := (r + 2)) (k := 5) (g' := (r + 2)) (k' := 38) hC 4 1 fl_X4_15 (okR hr_r rfl) rfl rfl rfl dX4_count_69 ?_
    refine V_aload_n hC 0 dX4_count_72 rfl ?_
    refine V_getI (g := (r + 2)) (k := 5) hC 4 2 fl_X4_18 (okR hr_r rfl) rfl rfl dX4_count_73 ?_
    refine V_lconst (v := 1) hC dX4_count_76 (by decide) ?_
    obtain ⟨hi, h⟩ := gd_some h
    refine V_last (g := (r + 2)) (k := 38) hC (okR hr_r rfl) rfl hi dX4_count_77 ?_
    refine V_hl h (fun H8 h => ?_)
    refine V_aload_n hC 0 dX4_count_78 rfl ?_
    refine V_dup hC dX4_count_79 rfl ?_
    refine V_getI (g := (r + 2)) (k := 5) hC 4 2 fl_X4_18 (okR hr_r rfl) rfl rfl dX4_count_80 ?_
    refine V_iconst (v := 1) hC dX4_count_83 (by decide) ?_
    refine V_iadd hC dX4_count_84 ?_
    refine V_putI (g := (r + 2)) (k := 5) hC 4 2 .int fw_X4_18 (okR hr_r rfl) rfl rfl rfl rfl dX4_count_85 ?_
    refine V_hl h (fun H9 h => ?_)
    exact V_vret hC hret dX4_count_88 h
  · have h := it_neg c6 h
    refine V_aload_n hC 0 dX4_count_47 rfl ?_
    refine V_dup hC dX4_count_48 rfl ?_
    refine V_getJ (g := (r + 2)) (k := 5) hC 4 3 fl_X4_22 (okR hr_r rfl) rfl rfl dX4_count_49 ?_
    refine V_lconst (v := 1) hC dX4_count_52 (by decide) ?_
    refine V_ladd hC dX4_count_53 ?_
    refine V_putJ (g := (r + 2)) (k := 5) hC 4 3 .long fw_X4_22 (okR hr_r rfl) rfl rfl rfl rfl dX4_count_54 ?_
    refine V_hl h (fun H10 h => ?_)
    exact V_vret hC hret dX4_count_57 h
theorem c_X4_count (l : Launch) {nr : Nat} {r : Nat} (hr_r : r < nr) {a1 : Int64} {H : Hp} {x : Unit} {H' : Hp} (h : f_X4_count r a1 H = some (x, H')) : CU l nr yX4_count cX4_count 4 none 0 0 (fun ad => [.ref (ad (r + 2) 5), .long a1]) H x H' := by
  intro D K4 ad sz
  refine Met.ofV (by decide) (Nat.le_of_ble_eq_true rfl) ?_
  intro p e s m args below meth c hC hret hsz
  subst hsz
  exact s_X4_count hC hret hr_r h
theorem dX4_inRow_0 : decode cX4_inRow 0 = .ok (.iload_n 1, 1) := by decide +kernel
theorem dX4_inRow_1 : decode cX4_inRow 1 = .ok (.ifCond .lt 20, 3) := by decide +kernel
theorem dX4_inRow_4 : decode cX4_inRow 4 = .ok (.iload_n 1, 1) := by decide +kernel
theorem dX4_inRow_5 : decode cX4_inRow 5 = .ok (.aload_n 0, 1) := by decide +kernel
theorem dX4_inRow_6 : decode cX4_inRow 6 = .ok (.getfield 18, 3) := by decide +kernel
theorem dX4_inRow_9 : decode cX4_inRow 9 = .ok (.if_icmp .ge 12, 3) := by decide +kernel
theorem dX4_inRow_12 : decode cX4_inRow 12 = .ok (.iload_n 2, 1) := by decide +kernel
theorem dX4_inRow_13 : decode cX4_inRow 13 = .ok (.ifCond .lt 8, 3) := by decide +kernel
theorem dX4_inRow_16 : decode cX4_inRow 16 = .ok (.iload_n 2, 1) := by decide +kernel
theorem dX4_inRow_17 : decode cX4_inRow 17 = .ok (.iconst 1, 1) := by decide +kernel
theorem dX4_inRow_18 : decode cX4_inRow 18 = .ok (.if_icmp .le 7, 3) := by decide +kernel
theorem dX4_inRow_21 : decode cX4_inRow 21 = .ok (.ldc2_w 26, 3) := by decide +kernel
theorem dX4_inRow_24 : decode cX4_inRow 24 = .ok (.lreturn, 1) := by decide +kernel
theorem dX4_inRow_25 : decode cX4_inRow 25 = .ok (.iload_n 2, 1) := by decide +kernel
theorem dX4_inRow_26 : decode cX4_inRow 26 = .ok (.ifCond .ne 12, 3) := by decide +kernel
theorem dX4_inRow_29 : decode cX4_inRow 29 = .ok (.aload_n 0, 1) := by decide +kernel
theorem dX4_inRow_30 : decode cX4_inRow 30 = .ok (.getfield 9, 3) := by decide +kernel
theorem dX4_inRow_33 : decode cX4_inRow 33 = .ok (.iload_n 1, 1) := by decide +kernel
theorem dX4_inRow_34 : decode cX4_inRow 34 = .ok (.laload, 1) := by decide +kernel
theorem dX4_inRow_35 : decode cX4_inRow 35 = .ok (.goto 9, 3) := by decide +kernel
theorem dX4_inRow_38 : decode cX4_inRow 38 = .ok (.aload_n 0, 1) := by decide +kernel
theorem dX4_inRow_39 : decode cX4_inRow 39 = .ok (.getfield 15, 3) := by decide +kernel
theorem dX4_inRow_42 : decode cX4_inRow 42 = .ok (.iload_n 1, 1) := by decide +kernel
theorem dX4_inRow_43 : decode cX4_inRow 43 = .ok (.laload, 1) := by decide +kernel
theorem dX4_inRow_44 : decode cX4_inRow 44 = .ok (.lreturn, 1) := by decide +kernel
def f_X4_inRow (r : Nat) (a1 : Int32) (a2 : Int32) (H : Hp) : Option (Int64 × Hp) := if a1 < 0 then some ((-1), H) else if (gI H (r + 2) 5 2) ≤ a1 then some ((-1), H) else if a2 < 0 then some ((-1), H) else if a2 ≤ 1 then if a2 = 0 then gd a1 16 (some ((gJ H (r + 2) 37 (Int32.toNatClampNeg a1)), H)) else gd a1 16 (some ((gJ H (r + 2) 38 (Int32.toNatClampNeg a1)), H)) else some ((-1), H)
set_option maxRecDepth 100000 in
set_option maxHeartbeats 4000000 in
theorem s_X4_inRow {p : Program} {l : Launch} {e : Env} {s : State} {m : MethodId} {args : Array Value} {below : List Frame} {meth : Method} {c : Code} {A : Nat → Prop} {D : va_G} {K4 : kQ} {ad : Nat → Nat → Nat} {nr : Nat} {r : Nat} {a1 : Int32} {a2 : Int32} {H : Hp} {res : Int64 × Hp} (hC : Cx p s m args c A s.heap D K4 3 RX4 cX4_inRow) (hret : meth.sig.returnType = (some .long) ∧ meth.locks = false) (hr_r : r < nr) (h : f_X4_inRow r a1 a2 H = some res) : V p l e ({ frames := 0, cells := 0, slots := 0, locals := 0 }) s m args below meth c A s.heap (QJ below args s A D K4 ad nr res) D K4 ad nr 3 0 [(0, .ref (ad (r + 2) 5)), (1, .int a1), (2, .int a2)] [] H := by
  unfold f_X4_inRow at h
  refine V_iload_n hC 1 dX4_inRow_0 rfl ?_
  refine V_if_lt (tgt := 21) hC dX4_inRow_1 (by decide) (fun c1 => ?_) (fun c1 => ?_)
  · have h := it_pos c1 h
    refine V_ldc2 hC dX4_inRow_21 cl_X4_26 ?_
    exact V_lret hC hret dX4_inRow_24 h
  · have h := it_neg c1 h
    refine V_iload_n hC 1 dX4_inRow_4 rfl ?_
    refine V_aload_n hC 0 dX4_inRow_5 rfl ?_
    refine V_getI (g := (r + 2)) (k := 5) hC 4 2 fl_X4_18 (okR hr_r rfl) rfl rfl dX4_inRow_6 ?_
    refine V_icmp_ge (tgt := 21) hC dX4_inRow_9 (by decide) (fun c2 => ?_) (fun c2 => ?_)
    · have h := it_pos c2 h
      refine V_ldc2 hC dX4_inRow_21 cl_X4_26 ?_
      exact V_lret hC hret dX4_inRow_24 h
    · have h := it_neg c2 h
      refine V_iload_n hC 2 dX4_inRow_12 rfl ?_
      refine V_if_lt (tgt := 21) hC dX4_inRow_13 (by decide) (fun c3 => ?_) (fun c3 => ?_)
      · have h := it_pos c3 h
        refine V_ldc2 hC dX4_inRow_21 cl_X4_26 ?_
        exact V_lret hC hret dX4_inRow_24 h
      · have h := it_neg c3 h
        refine V_iload_n hC 2 dX4_inRow_16 rfl ?_
        refine V_iconst (v := 1) hC dX4_inRow_17 (by decide) ?_
        refine V_icmp_le (tgt := 25) hC dX4_inRow_18 (by decide) (fun c4 => ?_) (fun c4 => ?_)
        · have h := it_pos c4 h
          refine V_iload_n hC 2 dX4_inRow_25 rfl ?_
          refine V_if_ne (tgt := 38) hC dX4_inRow_26 (by decide) (fun c5 => ?_) (fun c5 => ?_)
          · have h := it_neg c5 h
            refine V_aload_n hC 0 dX4_inRow_38 rfl ?_
            refine V_getR (g := (r + 2)) (k := 5) (g' := (r + 2)) (k' := 38) hC 4 1 fl_X4_15 (okR hr_r rfl) rfl rfl rfl dX4_inRow_39 ?_
            refine V_iload_n hC 1 dX4_inRow_42 rfl ?_
            obtain ⟨hi, h⟩ := gd_some h
            refine V_lald (g := (r + 2)) (k := 38) hC (okR hr_r rfl) rfl hi dX4_inRow_43 ?_
            exact V_lret hC hret dX4_inRow_44 h
          · have h := it_pos c5 h
            refine V_aload_n hC 0 dX4_inRow_29 rfl ?_
            refine V_getR (g := (r + 2)) (k := 5) (g' := (r + 2)) (k' := 37) hC 4 0 fl_X4_9 (okR hr_r rfl) rfl rfl rfl dX4_inRow_30 ?_
            refine V_iload_n hC 1 dX4_inRow_33 rfl ?_
            obtain ⟨hi, h⟩ := gd_some h
            refine V_lald (g := (r + 2)) (k := 37) hC (okR hr_r rfl) rfl hi dX4_inRow_34 ?_
            refine V_goto (tgt := 44) hC dX4_inRow_35 (by decide) ?_
            exact V_lret hC hret dX4_inRow_44 h
        · have h := it_neg c4 h
          refine V_ldc2 hC dX4_inRow_21 cl_X4_26 ?_
          exact V_lret hC hret dX4_inRow_24 h
theorem c_X4_inRow (l : Launch) {nr : Nat} {r : Nat} (hr_r : r < nr) {a1 : Int32} {a2 : Int32} {H : Hp} {x : Int64} {H' : Hp} (h : f_X4_inRow r a1 a2 H = some (x, H')) : CJ l nr yX4_inRow cX4_inRow 3 (some .long) 0 0 (fun ad => [.ref (ad (r + 2) 5), .int a1, .int a2]) H x H' := by
  intro D K4 ad sz
  refine Met.ofV (by decide) (Nat.le_of_ble_eq_true rfl) ?_
  intro p e s m args below meth c hC hret hsz
  subst hsz
  exact s_X4_inRow hC hret hr_r h
