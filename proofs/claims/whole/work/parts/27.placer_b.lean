theorem dX8_look_0 : decode cX8_look 0 = .ok (.aload_n 0, 1) := by decide +kernel
theorem dX8_look_1 : decode cX8_look 1 = .ok (.iload_n 1, 1) := by decide +kernel
theorem dX8_look_2 : decode cX8_look 2 = .ok (.invokevirtual 37, 3) := by decide +kernel
theorem dX8_look_5 : decode cX8_look 5 = .ok (.astore_n 3, 1) := by decide +kernel
theorem dX8_look_6 : decode cX8_look 6 = .ok (.aload_n 3, 1) := by decide +kernel
theorem dX8_look_7 : decode cX8_look 7 = .ok (.ifnonnull 13, 3) := by decide +kernel
theorem dX8_look_10 : decode cX8_look 10 = .ok (.new 91, 3) := by decide +kernel
theorem dX8_look_13 : decode cX8_look 13 = .ok (.dup, 1) := by decide +kernel
theorem dX8_look_14 : decode cX8_look 14 = .ok (.ldc 93, 2) := by decide +kernel
theorem dX8_look_16 : decode cX8_look 16 = .ok (.invokespecial 95, 3) := by decide +kernel
theorem dX8_look_19 : decode cX8_look 19 = .ok (.athrow, 1) := by decide +kernel
theorem dX8_look_20 : decode cX8_look 20 = .ok (.iload_n 2, 1) := by decide +kernel
theorem dX8_look_21 : decode cX8_look 21 = .ok (.ifCond .lt 9, 3) := by decide +kernel
theorem dX8_look_24 : decode cX8_look 24 = .ok (.iload_n 2, 1) := by decide +kernel
theorem dX8_look_25 : decode cX8_look 25 = .ok (.bipush 9, 2) := by decide +kernel
theorem dX8_look_27 : decode cX8_look 27 = .ok (.if_icmp .le 13, 3) := by decide +kernel
theorem dX8_look_30 : decode cX8_look 30 = .ok (.new 98, 3) := by decide +kernel
theorem dX8_look_33 : decode cX8_look 33 = .ok (.dup, 1) := by decide +kernel
theorem dX8_look_34 : decode cX8_look 34 = .ok (.ldc 100, 2) := by decide +kernel
theorem dX8_look_36 : decode cX8_look 36 = .ok (.invokespecial 102, 3) := by decide +kernel
theorem dX8_look_39 : decode cX8_look 39 = .ok (.athrow, 1) := by decide +kernel
theorem dX8_look_40 : decode cX8_look 40 = .ok (.aload_n 3, 1) := by decide +kernel
theorem dX8_look_41 : decode cX8_look 41 = .ok (.iload_n 2, 1) := by decide +kernel
theorem dX8_look_42 : decode cX8_look 42 = .ok (.invokevirtual 103, 3) := by decide +kernel
theorem dX8_look_45 : decode cX8_look 45 = .ok (.lreturn, 1) := by decide +kernel
def f_X8_look (nr : Nat) (a1 : Int32) (a2 : Int32) (H : Hp) : Option (Int64 × Hp) := bnd (f_X8_routineAt a1 H) (fun w2 H1 => nz nr w2 (none) (fun r3 => if a2 < 0 then none else if a2 ≤ 9 then bnd (f_X2_ofItself r3 a2 H1) (fun w7 H6 => some (w7, H6)) else none))
set_option maxRecDepth 100000 in
set_option maxHeartbeats 4000000 in
theorem s_X8_look {p : Program} {l : Launch} {e : Env} {s : State} {m : MethodId} {args : Array Value} {below : List Frame} {meth : Method} {c : Code} {A : Nat → Prop} {D : va_G} {K4 : kQ} {ad : Nat → Nat → Nat} {nr : Nat} {a1 : Int32} {a2 : Int32} {H : Hp} {res : Int64 × Hp} (hC : Cx p s m args c A s.heap D K4 4 RX8 cX8_look) (hret : meth.sig.returnType = (some .long) ∧ meth.locks = false) (h : f_X8_look nr a1 a2 H = some res) : V p l e ({ frames := 1, cells := 0, slots := 0, locals := 21 }) s m args below meth c A s.heap (QJ below args s A D K4 ad nr res) D K4 ad nr 4 0 [(0, .ref (ad 1 0)), (1, .int a1), (2, .int a2)] [] H := by
  unfold f_X8_look at h
  refine V_aload_n hC 0 dX8_look_0 rfl ?_
  refine V_iload_n hC 1 dX8_look_1 rfl ?_
  obtain ⟨w2, H1, hc, h⟩ := bnd_some h
  refine V_callq (g := 1) (k := 0) (As := [.int a1]) (st := []) hC (c_X8_routineAt l hc) rfl ml_X8_37 ⟨Nat.le_of_ble_eq_true rfl, Nat.le_of_ble_eq_true rfl⟩ rfl rfl rfl (Nat.le_of_ble_eq_true rfl) dX8_look_2 ?_
  refine V_astoreq_n (lv' := [(3, vr ad w2), (0, .ref (ad 1 0)), (1, .int a1), (2, .int a2)]) hC dX8_look_5 (Nat.le_of_ble_eq_true rfl) rfl ?_
  refine V_aloadq_n hC 0 dX8_look_6 rfl ?_
  replace h := nz_some h
  rcases h with ⟨rfl, h⟩ | ⟨r3, rfl, hr_r3, h⟩
  · refine V_ifnonnullN hC dX8_look_7 ?_
    exact nomatch h
  · refine V_ifnonnullS (r := r3) (tgt := 20) hC dX8_look_7 (by decide) ?_
    refine V_iload_n hC 3 dX8_look_20 rfl ?_
    refine V_if_lt (tgt := 30) hC dX8_look_21 (by decide) (fun c4 => ?_) (fun c4 => ?_)
    · replace h := it_pos c4 h
      exact nomatch h
    · replace h := it_neg c4 h
      refine V_iload_n hC 3 dX8_look_24 rfl ?_
      refine V_bipush (v := 9) hC dX8_look_25 (by decide) ?_
      refine V_icmp_le (tgt := 40) hC dX8_look_27 (by decide) (fun c5 => ?_) (fun c5 => ?_)
      · replace h := it_pos c5 h
        refine V_aload_n hC 0 dX8_look_40 rfl ?_
        refine V_iload_n hC 3 dX8_look_41 rfl ?_
        obtain ⟨w7, H6, hc, h⟩ := bnd_some h
        refine V_calll (g := (r3 + 2)) (k := 0) (As := [.int a2]) (st := []) hC (c_X2_ofItself l (hr_r := hr_r3) hc) rfl ml_X8_103 ⟨Nat.le_of_ble_eq_true rfl, Nat.le_of_ble_eq_true rfl⟩ (okR hr_r3 rfl) rfl rfl (Nat.le_of_ble_eq_true rfl) dX8_look_42 ?_
        exact V_lret hC hret dX8_look_45 h
      · replace h := it_neg c5 h
        exact nomatch h
theorem c_X8_look (l : Launch) {nr : Nat} {a1 : Int32} {a2 : Int32} {H : Hp} {x : Int64} {H' : Hp} (h : f_X8_look nr a1 a2 H = some (x, H')) : CJ l nr yX8_look cX8_look 4 (some .long) 1 21 (fun ad => [.ref (ad 1 0), .int a1, .int a2]) H x H' := by
  intro D K4 ad sz
  refine Met.ofV (by decide) (Nat.le_of_ble_eq_true rfl) ?_
  intro p e s m args below meth c hC hret hsz
  subst hsz
  exact s_X8_look hC hret h
theorem dX8_ofEdge_0 : decode cX8_ofEdge 0 = .ok (.aload_n 0, 1) := by decide +kernel
theorem dX8_ofEdge_1 : decode cX8_ofEdge 1 = .ok (.iload_n 1, 1) := by decide +kernel
theorem dX8_ofEdge_2 : decode cX8_ofEdge 2 = .ok (.invokevirtual 37, 3) := by decide +kernel
theorem dX8_ofEdge_5 : decode cX8_ofEdge 5 = .ok (.astore 4, 2) := by decide +kernel
theorem dX8_ofEdge_7 : decode cX8_ofEdge 7 = .ok (.aload 4, 2) := by decide +kernel
theorem dX8_ofEdge_9 : decode cX8_ofEdge 9 = .ok (.ifnull 15, 3) := by decide +kernel
theorem dX8_ofEdge_12 : decode cX8_ofEdge 12 = .ok (.aload 4, 2) := by decide +kernel
theorem dX8_ofEdge_14 : decode cX8_ofEdge 14 = .ok (.getfield 44, 3) := by decide +kernel
theorem dX8_ofEdge_17 : decode cX8_ofEdge 17 = .ok (.iload_n 2, 1) := by decide +kernel
theorem dX8_ofEdge_18 : decode cX8_ofEdge 18 = .ok (.invokevirtual 62, 3) := by decide +kernel
theorem dX8_ofEdge_21 : decode cX8_ofEdge 21 = .ok (.ifCond .ne 13, 3) := by decide +kernel
theorem dX8_ofEdge_24 : decode cX8_ofEdge 24 = .ok (.new 91, 3) := by decide +kernel
theorem dX8_ofEdge_27 : decode cX8_ofEdge 27 = .ok (.dup, 1) := by decide +kernel
theorem dX8_ofEdge_28 : decode cX8_ofEdge 28 = .ok (.ldc 107, 2) := by decide +kernel
theorem dX8_ofEdge_30 : decode cX8_ofEdge 30 = .ok (.invokespecial 95, 3) := by decide +kernel
theorem dX8_ofEdge_33 : decode cX8_ofEdge 33 = .ok (.athrow, 1) := by decide +kernel
theorem dX8_ofEdge_34 : decode cX8_ofEdge 34 = .ok (.iload_n 3, 1) := by decide +kernel
theorem dX8_ofEdge_35 : decode cX8_ofEdge 35 = .ok (.ifCond .lt 9, 3) := by decide +kernel
theorem dX8_ofEdge_38 : decode cX8_ofEdge 38 = .ok (.iload_n 3, 1) := by decide +kernel
theorem dX8_ofEdge_39 : decode cX8_ofEdge 39 = .ok (.bipush 9, 2) := by decide +kernel
theorem dX8_ofEdge_41 : decode cX8_ofEdge 41 = .ok (.if_icmp .le 13, 3) := by decide +kernel
theorem dX8_ofEdge_44 : decode cX8_ofEdge 44 = .ok (.new 98, 3) := by decide +kernel
theorem dX8_ofEdge_47 : decode cX8_ofEdge 47 = .ok (.dup, 1) := by decide +kernel
theorem dX8_ofEdge_48 : decode cX8_ofEdge 48 = .ok (.ldc 109, 2) := by decide +kernel
theorem dX8_ofEdge_50 : decode cX8_ofEdge 50 = .ok (.invokespecial 102, 3) := by decide +kernel
theorem dX8_ofEdge_53 : decode cX8_ofEdge 53 = .ok (.athrow, 1) := by decide +kernel
theorem dX8_ofEdge_54 : decode cX8_ofEdge 54 = .ok (.iload_n 3, 1) := by decide +kernel
theorem dX8_ofEdge_55 : decode cX8_ofEdge 55 = .ok (.iconst 4, 1) := by decide +kernel
theorem dX8_ofEdge_56 : decode cX8_ofEdge 56 = .ok (.if_icmp .ge 16, 3) := by decide +kernel
theorem dX8_ofEdge_59 : decode cX8_ofEdge 59 = .ok (.aload 4, 2) := by decide +kernel
theorem dX8_ofEdge_61 : decode cX8_ofEdge 61 = .ok (.getfield 44, 3) := by decide +kernel
theorem dX8_ofEdge_64 : decode cX8_ofEdge 64 = .ok (.iload_n 2, 1) := by decide +kernel
theorem dX8_ofEdge_65 : decode cX8_ofEdge 65 = .ok (.iload_n 3, 1) := by decide +kernel
theorem dX8_ofEdge_66 : decode cX8_ofEdge 66 = .ok (.invokevirtual 111, 3) := by decide +kernel
theorem dX8_ofEdge_69 : decode cX8_ofEdge 69 = .ok (.goto 10, 3) := by decide +kernel
theorem dX8_ofEdge_72 : decode cX8_ofEdge 72 = .ok (.aload 4, 2) := by decide +kernel
theorem dX8_ofEdge_74 : decode cX8_ofEdge 74 = .ok (.iload_n 2, 1) := by decide +kernel
theorem dX8_ofEdge_75 : decode cX8_ofEdge 75 = .ok (.iload_n 3, 1) := by decide +kernel
theorem dX8_ofEdge_76 : decode cX8_ofEdge 76 = .ok (.invokevirtual 115, 3) := by decide +kernel
theorem dX8_ofEdge_79 : decode cX8_ofEdge 79 = .ok (.lreturn, 1) := by decide +kernel
def f_X8_ofEdge (nr : Nat) (a1 : Int32) (a2 : Int32) (a3 : Int32) (H : Hp) : Option (Int64 × Hp) := bnd (f_X8_routineAt a1 H) (fun w2 H1 => nz nr w2 (none) (fun r3 => bnd (f_X3_hasEdge r3 a2 H1) (fun w5 H4 => if w5 = 0 then none else if a3 < 0 then none else if a3 ≤ 9 then if 4 ≤ a3 then bnd (f_X2_countOfEdge r3 a2 a3 H4) (fun w11 H10 => some (w11, H10)) else bnd (f_X3_shapeOfEdge r3 a2 a3 H4) (fun w13 H12 => some (w13, H12)) else none)))
set_option maxRecDepth 100000 in
set_option maxHeartbeats 4000000 in
theorem s_X8_ofEdge {p : Program} {l : Launch} {e : Env} {s : State} {m : MethodId} {args : Array Value} {below : List Frame} {meth : Method} {c : Code} {A : Nat → Prop} {D : va_G} {K4 : kQ} {ad : Nat → Nat → Nat} {nr : Nat} {a1 : Int32} {a2 : Int32} {a3 : Int32} {H : Hp} {res : Int64 × Hp} (hC : Cx p s m args c A s.heap D K4 5 RX8 cX8_ofEdge) (hret : meth.sig.returnType = (some .long) ∧ meth.locks = false) (h : f_X8_ofEdge nr a1 a2 a3 H = some res) : V p l e ({ frames := 3, cells := 0, slots := 0, locals := 64 }) s m args below meth c A s.heap (QJ below args s A D K4 ad nr res) D K4 ad nr 5 0 [(0, .ref (ad 1 0)), (1, .int a1), (2, .int a2), (3, .int a3)] [] H := by
  unfold f_X8_ofEdge at h
  refine V_aload_n hC 0 dX8_ofEdge_0 rfl ?_
  refine V_iload_n hC 1 dX8_ofEdge_1 rfl ?_
  obtain ⟨w2, H1, hc, h⟩ := bnd_some h
  refine V_callq (g := 1) (k := 0) (As := [.int a1]) (st := []) hC (c_X8_routineAt l hc) rfl ml_X8_37 ⟨Nat.le_of_ble_eq_true rfl, Nat.le_of_ble_eq_true rfl⟩ rfl rfl rfl (Nat.le_of_ble_eq_true rfl) dX8_ofEdge_2 ?_
  refine V_astoreq (lv' := [(4, vr ad w2), (0, .ref (ad 1 0)), (1, .int a1), (2, .int a2), (3, .int a3)]) hC dX8_ofEdge_5 (Nat.le_of_ble_eq_true rfl) rfl ?_
  refine V_aloadq hC 0 dX8_ofEdge_7 rfl ?_
  replace h := nz_some h
  rcases h with ⟨rfl, h⟩ | ⟨r3, rfl, hr_r3, h⟩
  · refine V_ifnullN (tgt := 24) hC dX8_ofEdge_9 (by decide) ?_
    exact nomatch h
  · refine V_ifnullS (r := r3) hC dX8_ofEdge_9 ?_
    refine V_aload hC 0 dX8_ofEdge_12 rfl ?_
    refine V_getR (g := (r3 + 2)) (k := 0) (g' := (r3 + 2)) (k' := 1) hC 2 1 fl_X8_44 (okR hr_r3 rfl) rfl rfl rfl dX8_ofEdge_14 ?_
    refine V_iload_n hC 3 dX8_ofEdge_17 rfl ?_
    obtain ⟨w5, H4, hc, h⟩ := bnd_some h
    refine V_calli (g := (r3 + 2)) (k := 1) (As := [.int a2]) (st := []) hC (c_X3_hasEdge l (hr_r := hr_r3) hc) rfl ml_X8_62 ⟨Nat.le_of_ble_eq_true rfl, Nat.le_of_ble_eq_true rfl⟩ (okR hr_r3 rfl) rfl rfl (Nat.le_of_ble_eq_true rfl) dX8_ofEdge_18 ?_
    refine V_if_ne (tgt := 34) hC dX8_ofEdge_21 (by decide) (fun c6 => ?_) (fun c6 => ?_)
    · replace h := it_neg c6 h
      refine V_iload_n hC 4 dX8_ofEdge_34 rfl ?_
      refine V_if_lt (tgt := 44) hC dX8_ofEdge_35 (by decide) (fun c7 => ?_) (fun c7 => ?_)
      · replace h := it_pos c7 h
        exact nomatch h
      · replace h := it_neg c7 h
        refine V_iload_n hC 4 dX8_ofEdge_38 rfl ?_
        refine V_bipush (v := 9) hC dX8_ofEdge_39 (by decide) ?_
        refine V_icmp_le (tgt := 54) hC dX8_ofEdge_41 (by decide) (fun c8 => ?_) (fun c8 => ?_)
        · replace h := it_pos c8 h
          refine V_iload_n hC 4 dX8_ofEdge_54 rfl ?_
          refine V_iconst (v := 4) hC dX8_ofEdge_55 (by decide) ?_
          refine V_icmp_ge (tgt := 72) hC dX8_ofEdge_56 (by decide) (fun c9 => ?_) (fun c9 => ?_)
          · replace h := it_pos c9 h
            refine V_aload hC 0 dX8_ofEdge_72 rfl ?_
            refine V_iload_n hC 3 dX8_ofEdge_74 rfl ?_
            refine V_iload_n hC 4 dX8_ofEdge_75 rfl ?_
            obtain ⟨w11, H10, hc, h⟩ := bnd_some h
            refine V_calll (g := (r3 + 2)) (k := 0) (As := [.int a2, .int a3]) (st := []) hC (c_X2_countOfEdge l (hr_r := hr_r3) hc) rfl ml_X8_115 ⟨Nat.le_of_ble_eq_true rfl, Nat.le_of_ble_eq_true rfl⟩ (okR hr_r3 rfl) rfl rfl (Nat.le_of_ble_eq_true rfl) dX8_ofEdge_76 ?_
            exact V_lret hC hret dX8_ofEdge_79 h
          · replace h := it_neg c9 h
            refine V_aload hC 0 dX8_ofEdge_59 rfl ?_
            refine V_getR (g := (r3 + 2)) (k := 0) (g' := (r3 + 2)) (k' := 1) hC 2 1 fl_X8_44 (okR hr_r3 rfl) rfl rfl rfl dX8_ofEdge_61 ?_
            refine V_iload_n hC 3 dX8_ofEdge_64 rfl ?_
            refine V_iload_n hC 4 dX8_ofEdge_65 rfl ?_
            obtain ⟨w13, H12, hc, h⟩ := bnd_some h
            refine V_calll (g := (r3 + 2)) (k := 1) (As := [.int a2, .int a3]) (st := []) hC (c_X3_shapeOfEdge l (hr_r := hr_r3) hc) rfl ml_X8_111 ⟨Nat.le_of_ble_eq_true rfl, Nat.le_of_ble_eq_true rfl⟩ (okR hr_r3 rfl) rfl rfl (Nat.le_of_ble_eq_true rfl) dX8_ofEdge_66 ?_
            refine V_goto (tgt := 79) hC dX8_ofEdge_69 (by decide) ?_
            exact V_lret hC hret dX8_ofEdge_79 h
        · replace h := it_neg c8 h
          exact nomatch h
    · replace h := it_pos c6 h
      exact nomatch h
theorem c_X8_ofEdge (l : Launch) {nr : Nat} {a1 : Int32} {a2 : Int32} {a3 : Int32} {H : Hp} {x : Int64} {H' : Hp} (h : f_X8_ofEdge nr a1 a2 a3 H = some (x, H')) : CJ l nr yX8_ofEdge cX8_ofEdge 5 (some .long) 3 64 (fun ad => [.ref (ad 1 0), .int a1, .int a2, .int a3]) H x H' := by
  intro D K4 ad sz
  refine Met.ofV (by decide) (Nat.le_of_ble_eq_true rfl) ?_
  intro p e s m args below meth c hC hret hsz
  subst hsz
  exact s_X8_ofEdge hC hret h
theorem dX8_ofBlock_0 : decode cX8_ofBlock 0 = .ok (.aload_n 0, 1) := by decide +kernel
theorem dX8_ofBlock_1 : decode cX8_ofBlock 1 = .ok (.iload_n 1, 1) := by decide +kernel
theorem dX8_ofBlock_2 : decode cX8_ofBlock 2 = .ok (.invokevirtual 37, 3) := by decide +kernel
theorem dX8_ofBlock_5 : decode cX8_ofBlock 5 = .ok (.astore 4, 2) := by decide +kernel
theorem dX8_ofBlock_7 : decode cX8_ofBlock 7 = .ok (.aload 4, 2) := by decide +kernel
theorem dX8_ofBlock_9 : decode cX8_ofBlock 9 = .ok (.ifnull 15, 3) := by decide +kernel
theorem dX8_ofBlock_12 : decode cX8_ofBlock 12 = .ok (.aload 4, 2) := by decide +kernel
theorem dX8_ofBlock_14 : decode cX8_ofBlock 14 = .ok (.getfield 44, 3) := by decide +kernel
theorem dX8_ofBlock_17 : decode cX8_ofBlock 17 = .ok (.iload_n 2, 1) := by decide +kernel
theorem dX8_ofBlock_18 : decode cX8_ofBlock 18 = .ok (.invokevirtual 118, 3) := by decide +kernel
theorem dX8_ofBlock_21 : decode cX8_ofBlock 21 = .ok (.ifCond .ne 13, 3) := by decide +kernel
theorem dX8_ofBlock_24 : decode cX8_ofBlock 24 = .ok (.new 91, 3) := by decide +kernel
theorem dX8_ofBlock_27 : decode cX8_ofBlock 27 = .ok (.dup, 1) := by decide +kernel
theorem dX8_ofBlock_28 : decode cX8_ofBlock 28 = .ok (.ldc 121, 2) := by decide +kernel
theorem dX8_ofBlock_30 : decode cX8_ofBlock 30 = .ok (.invokespecial 95, 3) := by decide +kernel
theorem dX8_ofBlock_33 : decode cX8_ofBlock 33 = .ok (.athrow, 1) := by decide +kernel
theorem dX8_ofBlock_34 : decode cX8_ofBlock 34 = .ok (.iload_n 3, 1) := by decide +kernel
theorem dX8_ofBlock_35 : decode cX8_ofBlock 35 = .ok (.ifCond .lt 9, 3) := by decide +kernel
theorem dX8_ofBlock_38 : decode cX8_ofBlock 38 = .ok (.iload_n 3, 1) := by decide +kernel
theorem dX8_ofBlock_39 : decode cX8_ofBlock 39 = .ok (.bipush 8, 2) := by decide +kernel
theorem dX8_ofBlock_41 : decode cX8_ofBlock 41 = .ok (.if_icmp .le 13, 3) := by decide +kernel
theorem dX8_ofBlock_44 : decode cX8_ofBlock 44 = .ok (.new 98, 3) := by decide +kernel
theorem dX8_ofBlock_47 : decode cX8_ofBlock 47 = .ok (.dup, 1) := by decide +kernel
theorem dX8_ofBlock_48 : decode cX8_ofBlock 48 = .ok (.ldc 123, 2) := by decide +kernel
theorem dX8_ofBlock_50 : decode cX8_ofBlock 50 = .ok (.invokespecial 102, 3) := by decide +kernel
theorem dX8_ofBlock_53 : decode cX8_ofBlock 53 = .ok (.athrow, 1) := by decide +kernel
theorem dX8_ofBlock_54 : decode cX8_ofBlock 54 = .ok (.iload_n 3, 1) := by decide +kernel
theorem dX8_ofBlock_55 : decode cX8_ofBlock 55 = .ok (.bipush 8, 2) := by decide +kernel
theorem dX8_ofBlock_57 : decode cX8_ofBlock 57 = .ok (.if_icmp .ne 14, 3) := by decide +kernel
theorem dX8_ofBlock_60 : decode cX8_ofBlock 60 = .ok (.aload_n 0, 1) := by decide +kernel
theorem dX8_ofBlock_61 : decode cX8_ofBlock 61 = .ok (.getfield 18, 3) := by decide +kernel
theorem dX8_ofBlock_64 : decode cX8_ofBlock 64 = .ok (.iload_n 1, 1) := by decide +kernel
theorem dX8_ofBlock_65 : decode cX8_ofBlock 65 = .ok (.iload_n 2, 1) := by decide +kernel
theorem dX8_ofBlock_66 : decode cX8_ofBlock 66 = .ok (.invokevirtual 125, 3) := by decide +kernel
theorem dX8_ofBlock_69 : decode cX8_ofBlock 69 = .ok (.i2l, 1) := by decide +kernel
theorem dX8_ofBlock_70 : decode cX8_ofBlock 70 = .ok (.lreturn, 1) := by decide +kernel
theorem dX8_ofBlock_71 : decode cX8_ofBlock 71 = .ok (.iload_n 3, 1) := by decide +kernel
theorem dX8_ofBlock_72 : decode cX8_ofBlock 72 = .ok (.iconst 4, 1) := by decide +kernel
theorem dX8_ofBlock_73 : decode cX8_ofBlock 73 = .ok (.if_icmp .ge 16, 3) := by decide +kernel
theorem dX8_ofBlock_76 : decode cX8_ofBlock 76 = .ok (.aload 4, 2) := by decide +kernel
theorem dX8_ofBlock_78 : decode cX8_ofBlock 78 = .ok (.getfield 44, 3) := by decide +kernel
theorem dX8_ofBlock_81 : decode cX8_ofBlock 81 = .ok (.iload_n 2, 1) := by decide +kernel
theorem dX8_ofBlock_82 : decode cX8_ofBlock 82 = .ok (.iload_n 3, 1) := by decide +kernel
theorem dX8_ofBlock_83 : decode cX8_ofBlock 83 = .ok (.invokevirtual 128, 3) := by decide +kernel
theorem dX8_ofBlock_86 : decode cX8_ofBlock 86 = .ok (.goto 10, 3) := by decide +kernel
theorem dX8_ofBlock_89 : decode cX8_ofBlock 89 = .ok (.aload 4, 2) := by decide +kernel
theorem dX8_ofBlock_91 : decode cX8_ofBlock 91 = .ok (.iload_n 2, 1) := by decide +kernel
theorem dX8_ofBlock_92 : decode cX8_ofBlock 92 = .ok (.iload_n 3, 1) := by decide +kernel
theorem dX8_ofBlock_93 : decode cX8_ofBlock 93 = .ok (.invokevirtual 131, 3) := by decide +kernel
theorem dX8_ofBlock_96 : decode cX8_ofBlock 96 = .ok (.lreturn, 1) := by decide +kernel
def f_X8_ofBlock (nr : Nat) (a1 : Int32) (a2 : Int32) (a3 : Int32) (H : Hp) : Option (Int64 × Hp) := bnd (f_X8_routineAt a1 H) (fun w2 H1 => nz nr w2 (none) (fun r3 => bnd (f_X3_hasBlock r3 a2 H1) (fun w5 H4 => if w5 = 0 then none else if a3 < 0 then none else if a3 ≤ 8 then if a3 = 8 then bnd (f_X6_openAt nr a1 a2 H4) (fun w16 H15 => some ((Int32.toInt64 w16), H15)) else if 4 ≤ a3 then bnd (f_X2_countOfBlock r3 a2 a3 H4) (fun w12 H11 => some (w12, H11)) else bnd (f_X3_shapeOfBlock r3 a2 a3 H4) (fun w14 H13 => some (w14, H13)) else none)))
set_option maxRecDepth 100000 in
set_option maxHeartbeats 4000000 in
theorem s_X8_ofBlock {p : Program} {l : Launch} {e : Env} {s : State} {m : MethodId} {args : Array Value} {below : List Frame} {meth : Method} {c : Code} {A : Nat → Prop} {D : va_G} {K4 : kQ} {ad : Nat → Nat → Nat} {nr : Nat} {a1 : Int32} {a2 : Int32} {a3 : Int32} {H : Hp} {res : Int64 × Hp} (hC : Cx p s m args c A s.heap D K4 5 RX8 cX8_ofBlock) (hret : meth.sig.returnType = (some .long) ∧ meth.locks = false) (h : f_X8_ofBlock nr a1 a2 a3 H = some res) : V p l e ({ frames := 2, cells := 0, slots := 0, locals := 46 }) s m args below meth c A s.heap (QJ below args s A D K4 ad nr res) D K4 ad nr 5 0 [(0, .ref (ad 1 0)), (1, .int a1), (2, .int a2), (3, .int a3)] [] H := by
  unfold f_X8_ofBlock at h
  refine V_aload_n hC 0 dX8_ofBlock_0 rfl ?_
  refine V_iload_n hC 1 dX8_ofBlock_1 rfl ?_
  obtain ⟨w2, H1, hc, h⟩ := bnd_some h
  refine V_callq (g := 1) (k := 0) (As := [.int a1]) (st := []) hC (c_X8_routineAt l hc) rfl ml_X8_37 ⟨Nat.le_of_ble_eq_true rfl, Nat.le_of_ble_eq_true rfl⟩ rfl rfl rfl (Nat.le_of_ble_eq_true rfl) dX8_ofBlock_2 ?_
  refine V_astoreq (lv' := [(4, vr ad w2), (0, .ref (ad 1 0)), (1, .int a1), (2, .int a2), (3, .int a3)]) hC dX8_ofBlock_5 (Nat.le_of_ble_eq_true rfl) rfl ?_
  refine V_aloadq hC 0 dX8_ofBlock_7 rfl ?_
  replace h := nz_some h
  rcases h with ⟨rfl, h⟩ | ⟨r3, rfl, hr_r3, h⟩
  · refine V_ifnullN (tgt := 24) hC dX8_ofBlock_9 (by decide) ?_
    exact nomatch h
  · refine V_ifnullS (r := r3) hC dX8_ofBlock_9 ?_
    refine V_aload hC 0 dX8_ofBlock_12 rfl ?_
    refine V_getR (g := (r3 + 2)) (k := 0) (g' := (r3 + 2)) (k' := 1) hC 2 1 fl_X8_44 (okR hr_r3 rfl) rfl rfl rfl dX8_ofBlock_14 ?_
    refine V_iload_n hC 3 dX8_ofBlock_17 rfl ?_
    obtain ⟨w5, H4, hc, h⟩ := bnd_some h
    refine V_calli (g := (r3 + 2)) (k := 1) (As := [.int a2]) (st := []) hC (c_X3_hasBlock l (hr_r := hr_r3) hc) rfl ml_X8_118 ⟨Nat.le_of_ble_eq_true rfl, Nat.le_of_ble_eq_true rfl⟩ (okR hr_r3 rfl) rfl rfl (Nat.le_of_ble_eq_true rfl) dX8_ofBlock_18 ?_
    refine V_if_ne (tgt := 34) hC dX8_ofBlock_21 (by decide) (fun c6 => ?_) (fun c6 => ?_)
    · replace h := it_neg c6 h
      refine V_iload_n hC 4 dX8_ofBlock_34 rfl ?_
      refine V_if_lt (tgt := 44) hC dX8_ofBlock_35 (by decide) (fun c7 => ?_) (fun c7 => ?_)
      · replace h := it_pos c7 h
        exact nomatch h
      · replace h := it_neg c7 h
        refine V_iload_n hC 4 dX8_ofBlock_38 rfl ?_
        refine V_bipush (v := 8) hC dX8_ofBlock_39 (by decide) ?_
        refine V_icmp_le (tgt := 54) hC dX8_ofBlock_41 (by decide) (fun c8 => ?_) (fun c8 => ?_)
        · replace h := it_pos c8 h
          refine V_iload_n hC 4 dX8_ofBlock_54 rfl ?_
          refine V_bipush (v := 8) hC dX8_ofBlock_55 (by decide) ?_
          refine V_icmp_ne (tgt := 71) hC dX8_ofBlock_57 (by decide) (fun c9 => ?_) (fun c9 => ?_)
          · replace h := it_neg c9 h
            refine V_iload_n hC 4 dX8_ofBlock_71 rfl ?_
            refine V_iconst (v := 4) hC dX8_ofBlock_72 (by decide) ?_
            refine V_icmp_ge (tgt := 89) hC dX8_ofBlock_73 (by decide) (fun c10 => ?_) (fun c10 => ?_)
            · replace h := it_pos c10 h
              refine V_aload hC 0 dX8_ofBlock_89 rfl ?_
              refine V_iload_n hC 3 dX8_ofBlock_91 rfl ?_
              refine V_iload_n hC 4 dX8_ofBlock_92 rfl ?_
              obtain ⟨w12, H11, hc, h⟩ := bnd_some h
              refine V_calll (g := (r3 + 2)) (k := 0) (As := [.int a2, .int a3]) (st := []) hC (c_X2_countOfBlock l (hr_r := hr_r3) hc) rfl ml_X8_131 ⟨Nat.le_of_ble_eq_true rfl, Nat.le_of_ble_eq_true rfl⟩ (okR hr_r3 rfl) rfl rfl (Nat.le_of_ble_eq_true rfl) dX8_ofBlock_93 ?_
              exact V_lret hC hret dX8_ofBlock_96 h
            · replace h := it_neg c10 h
              refine V_aload hC 0 dX8_ofBlock_76 rfl ?_
              refine V_getR (g := (r3 + 2)) (k := 0) (g' := (r3 + 2)) (k' := 1) hC 2 1 fl_X8_44 (okR hr_r3 rfl) rfl rfl rfl dX8_ofBlock_78 ?_
              refine V_iload_n hC 3 dX8_ofBlock_81 rfl ?_
              refine V_iload_n hC 4 dX8_ofBlock_82 rfl ?_
              obtain ⟨w14, H13, hc, h⟩ := bnd_some h
              refine V_calll (g := (r3 + 2)) (k := 1) (As := [.int a2, .int a3]) (st := []) hC (c_X3_shapeOfBlock l (hr_r := hr_r3) hc) rfl ml_X8_128 ⟨Nat.le_of_ble_eq_true rfl, Nat.le_of_ble_eq_true rfl⟩ (okR hr_r3 rfl) rfl rfl (Nat.le_of_ble_eq_true rfl) dX8_ofBlock_83 ?_
              refine V_goto (tgt := 96) hC dX8_ofBlock_86 (by decide) ?_
              exact V_lret hC hret dX8_ofBlock_96 h
          · replace h := it_pos c9 h
            refine V_aload_n hC 1 dX8_ofBlock_60 rfl ?_
            refine V_getR (g := 1) (k := 0) (g' := 1) (k' := 2) hC 8 1 fl_X8_18 rfl rfl rfl rfl dX8_ofBlock_61 ?_
            refine V_iload_n hC 2 dX8_ofBlock_64 rfl ?_
            refine V_iload_n hC 3 dX8_ofBlock_65 rfl ?_
            obtain ⟨w16, H15, hc, h⟩ := bnd_some h
            refine V_calli (g := 1) (k := 2) (As := [.int a1, .int a2]) (st := []) hC (c_X6_openAt l hc) rfl ml_X8_125 ⟨Nat.le_of_ble_eq_true rfl, Nat.le_of_ble_eq_true rfl⟩ rfl rfl rfl (Nat.le_of_ble_eq_true rfl) dX8_ofBlock_66 ?_
            refine V_i2l hC dX8_ofBlock_69 ?_
            exact V_lret hC hret dX8_ofBlock_70 h
        · replace h := it_neg c8 h
          exact nomatch h
    · replace h := it_pos c6 h
      exact nomatch h
theorem c_X8_ofBlock (l : Launch) {nr : Nat} {a1 : Int32} {a2 : Int32} {a3 : Int32} {H : Hp} {x : Int64} {H' : Hp} (h : f_X8_ofBlock nr a1 a2 a3 H = some (x, H')) : CJ l nr yX8_ofBlock cX8_ofBlock 5 (some .long) 2 46 (fun ad => [.ref (ad 1 0), .int a1, .int a2, .int a3]) H x H' := by
  intro D K4 ad sz
  refine Met.ofV (by decide) (Nat.le_of_ble_eq_true rfl) ?_
  intro p e s m args below meth c hC hret hsz
  subst hsz
  exact s_X8_ofBlock hC hret h
