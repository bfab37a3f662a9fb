theorem dX6_isOf_0 : decode cX6_isOf 0 = .ok (.aload_n 0, 1) := by decide +kernel
theorem dX6_isOf_1 : decode cX6_isOf 1 = .ok (.getfield 11, 3) := by decide +kernel
theorem dX6_isOf_4 : decode cX6_isOf 4 = .ok (.iload_n 1, 1) := by decide +kernel
theorem dX6_isOf_5 : decode cX6_isOf 5 = .ok (.aaload, 1) := by decide +kernel
theorem dX6_isOf_6 : decode cX6_isOf 6 = .ok (.ifnull 20, 3) := by decide +kernel
theorem dX6_isOf_9 : decode cX6_isOf 9 = .ok (.aload_n 0, 1) := by decide +kernel
theorem dX6_isOf_10 : decode cX6_isOf 10 = .ok (.getfield 11, 3) := by decide +kernel
theorem dX6_isOf_13 : decode cX6_isOf 13 = .ok (.iload_n 1, 1) := by decide +kernel
theorem dX6_isOf_14 : decode cX6_isOf 14 = .ok (.aaload, 1) := by decide +kernel
theorem dX6_isOf_15 : decode cX6_isOf 15 = .ok (.getfield 140, 3) := by decide +kernel
theorem dX6_isOf_18 : decode cX6_isOf 18 = .ok (.iload_n 2, 1) := by decide +kernel
theorem dX6_isOf_19 : decode cX6_isOf 19 = .ok (.if_icmp .ne 7, 3) := by decide +kernel
theorem dX6_isOf_22 : decode cX6_isOf 22 = .ok (.iconst 1, 1) := by decide +kernel
theorem dX6_isOf_23 : decode cX6_isOf 23 = .ok (.goto 4, 3) := by decide +kernel
theorem dX6_isOf_26 : decode cX6_isOf 26 = .ok (.iconst 0, 1) := by decide +kernel
theorem dX6_isOf_27 : decode cX6_isOf 27 = .ok (.ireturn, 1) := by decide +kernel
def f_X6_isOf (nr : Nat) (a1 : Int32) (a2 : Int32) (H : Hp) : Option (Int32 × Hp) := gd a1 30 (vl (gR H 1 4 (Int32.toNatClampNeg a1)) (fun (o1 : Option Nat) => nz nr o1 (some (0, H)) (fun r2 => gd a1 30 (vl (gR H 1 4 (Int32.toNatClampNeg a1)) (fun (o3 : Option Nat) => nn nr o3 (fun r4 => if (gI H (r4 + 2) 0 0) = a2 then some (1, H) else some (0, H)))))))
set_option maxRecDepth 100000 in
set_option maxHeartbeats 4000000 in
theorem s_X6_isOf {p : Program} {l : Launch} {e : Env} {s : State} {m : MethodId} {args : Array Value} {below : List Frame} {meth : Method} {c : Code} {A : Nat → Prop} {D : va_G} {K4 : kQ} {ad : Nat → Nat → Nat} {nr : Nat} {a1 : Int32} {a2 : Int32} {H : Hp} {res : Int32 × Hp} (hC : Cx p s m args c A s.heap D K4 3 RX6 cX6_isOf) (hret : meth.sig.returnType = (some .boolean) ∧ meth.locks = false) (h : f_X6_isOf nr a1 a2 H = some res) : V p l e ({ frames := 0, cells := 0, slots := 0, locals := 0 }) s m args below meth c A s.heap (QI below args s A D K4 ad nr res) D K4 ad nr 3 0 [(0, .ref (ad 1 2)), (1, .int a1), (2, .int a2)] [] H := by
  unfold f_X6_isOf at h
  refine V_aload_n hC 0 dX6_isOf_0 rfl ?_
  refine V_getR (g := 1) (k := 2) (g' := 1) (k' := 4) hC 6 0 fl_X6_11 rfl rfl rfl rfl dX6_isOf_1 ?_
  refine V_iload_n hC 1 dX6_isOf_4 rfl ?_
  obtain ⟨hi, h⟩ := gd_some h
  refine V_aald (g := 1) (k := 4) hC rfl rfl hi dX6_isOf_5 ?_
  refine V_vlQ h (fun o1 h => ?_)
  replace h := nz_some h
  rcases h with ⟨rfl, h⟩ | ⟨r2, rfl, hr_r2, h⟩
  · refine V_ifnullN (tgt := 26) hC dX6_isOf_6 (by decide) ?_
    refine V_iconst (v := 0) hC dX6_isOf_26 (by decide) ?_
    exact V_zret hC hret (by decide) dX6_isOf_27 h
  · refine V_ifnullS (r := r2) hC dX6_isOf_6 ?_
    refine V_aload_n hC 0 dX6_isOf_9 rfl ?_
    refine V_getR (g := 1) (k := 2) (g' := 1) (k' := 4) hC 6 0 fl_X6_11 rfl rfl rfl rfl dX6_isOf_10 ?_
    refine V_iload_n hC 1 dX6_isOf_13 rfl ?_
    obtain ⟨hi, h⟩ := gd_some h
    refine V_aald (g := 1) (k := 4) hC rfl rfl hi dX6_isOf_14 ?_
    refine V_vlQ h (fun o3 h => ?_)
    replace h := nn_some h
    obtain ⟨r4, rfl, hr_r4, h⟩ := h
    refine V_getI (g := (r4 + 2)) (k := 0) hC 2 0 fl_X6_140 (okR hr_r4 rfl) rfl rfl dX6_isOf_15 ?_
    refine V_iload_n hC 2 dX6_isOf_18 rfl ?_
    refine V_icmp_ne (tgt := 26) hC dX6_isOf_19 (by decide) (fun c5 => ?_) (fun c5 => ?_)
    · replace h := it_neg c5 h
      refine V_iconst (v := 0) hC dX6_isOf_26 (by decide) ?_
      exact V_zret hC hret (by decide) dX6_isOf_27 h
    · replace h := it_pos c5 h
      refine V_iconst (v := 1) hC dX6_isOf_22 (by decide) ?_
      refine V_goto (tgt := 27) hC dX6_isOf_23 (by decide) ?_
      exact V_zret hC hret (by decide) dX6_isOf_27 h
theorem c_X6_isOf (l : Launch) {nr : Nat} {a1 : Int32} {a2 : Int32} {H : Hp} {x : Int32} {H' : Hp} (h : f_X6_isOf nr a1 a2 H = some (x, H')) : CI l nr yX6_isOf cX6_isOf 3 (some .boolean) 0 0 (fun ad => [.ref (ad 1 2), .int a1, .int a2]) H x H' := by
  intro D K4 ad sz
  refine Met.ofV (by decide) (Nat.le_of_ble_eq_true rfl) ?_
  intro p e s m args below meth c hC hret hsz
  subst hsz
  exact s_X6_isOf hC hret h
theorem dX6_openAt_0 : decode cX6_openAt 0 = .ok (.iconst 0, 1) := by decide +kernel
theorem dX6_openAt_1 : decode cX6_openAt 1 = .ok (.istore_n 3, 1) := by decide +kernel
theorem dX6_openAt_2 : decode cX6_openAt 2 = .ok (.iconst 0, 1) := by decide +kernel
theorem dX6_openAt_3 : decode cX6_openAt 3 = .ok (.istore 4, 2) := by decide +kernel
theorem dX6_openAt_5 : decode cX6_openAt 5 = .ok (.iload 4, 2) := by decide +kernel
theorem dX6_openAt_7 : decode cX6_openAt 7 = .ok (.aload_n 0, 1) := by decide +kernel
theorem dX6_openAt_8 : decode cX6_openAt 8 = .ok (.getfield 56, 3) := by decide +kernel
theorem dX6_openAt_11 : decode cX6_openAt 11 = .ok (.if_icmp .ge 33, 3) := by decide +kernel
theorem dX6_openAt_14 : decode cX6_openAt 14 = .ok (.aload_n 0, 1) := by decide +kernel
theorem dX6_openAt_15 : decode cX6_openAt 15 = .ok (.iload 4, 2) := by decide +kernel
theorem dX6_openAt_17 : decode cX6_openAt 17 = .ok (.iload_n 1, 1) := by decide +kernel
theorem dX6_openAt_18 : decode cX6_openAt 18 = .ok (.invokevirtual 136, 3) := by decide +kernel
theorem dX6_openAt_21 : decode cX6_openAt 21 = .ok (.ifCond .eq 17, 3) := by decide +kernel
theorem dX6_openAt_24 : decode cX6_openAt 24 = .ok (.aload_n 0, 1) := by decide +kernel
theorem dX6_openAt_25 : decode cX6_openAt 25 = .ok (.getfield 17, 3) := by decide +kernel
theorem dX6_openAt_28 : decode cX6_openAt 28 = .ok (.iload 4, 2) := by decide +kernel
theorem dX6_openAt_30 : decode cX6_openAt 30 = .ok (.iaload, 1) := by decide +kernel
theorem dX6_openAt_31 : decode cX6_openAt 31 = .ok (.iload_n 2, 1) := by decide +kernel
theorem dX6_openAt_32 : decode cX6_openAt 32 = .ok (.if_icmp .ne 6, 3) := by decide +kernel
theorem dX6_openAt_35 : decode cX6_openAt 35 = .ok (.iinc 3 1, 3) := by decide +kernel
theorem dX6_openAt_38 : decode cX6_openAt 38 = .ok (.iinc 4 1, 3) := by decide +kernel
theorem dX6_openAt_41 : decode cX6_openAt 41 = .ok (.goto (-36), 3) := by decide +kernel
theorem dX6_openAt_44 : decode cX6_openAt 44 = .ok (.iload_n 3, 1) := by decide +kernel
theorem dX6_openAt_45 : decode cX6_openAt 45 = .ok (.ireturn, 1) := by decide +kernel
def L_X6_openAt_5 (nr : Nat) (b1 : Int32) (b2 : Int32) (k : Int32 → Hp → Option (Int32 × Hp)) : Nat → Int32 → Int32 → Hp → Option (Int32 × Hp)
  | 0, _, _, _ => none
  | n + 1, x3, x4, H => if (gI H 1 2 3) ≤ x4 then k x3 H else bnd (f_X6_isOf nr x4 b1 H) (fun w3 H2 => if w3 = 0 then vl (x4 + (1 : Int32)) (fun (v5 : Int32) => L_X6_openAt_5 nr b1 b2 k n x3 v5 H2) else gd x4 30 (if (gI H2 1 5 (Int32.toNatClampNeg x4)) = b2 then vl (x3 + (1 : Int32)) (fun (v8 : Int32) => vl (x4 + (1 : Int32)) (fun (v9 : Int32) => L_X6_openAt_5 nr b1 b2 k n v8 v9 H2)) else vl (x4 + (1 : Int32)) (fun (v7 : Int32) => L_X6_openAt_5 nr b1 b2 k n x3 v7 H2)))
set_option maxRecDepth 100000 in
set_option maxHeartbeats 4000000 in
theorem sL_X6_openAt_5 {p : Program} {l : Launch} {e : Env} {s : State} {m : MethodId} {args : Array Value} {below : List Frame} {meth : Method} {c : Code} {A : Nat → Prop} {D : va_G} {K4 : kQ} {ad : Nat → Nat → Nat} {nr : Nat} {b1 : Int32} {b2 : Int32} {k : Int32 → Hp → Option (Int32 × Hp)} {res : Int32 × Hp} (hC : Cx p s m args c A s.heap D K4 5 RX6 cX6_openAt) (hret : meth.sig.returnType = (some .int) ∧ meth.locks = false) (hk : ∀ (z3 : Int32) (H : Hp), k z3 H = some res → V p l e ({ frames := 1, cells := 0, slots := 0, locals := 22 }) s m args below meth c A s.heap (QI below args s A D K4 ad nr res) D K4 ad nr 5 44 [(3, .int z3)] [] H) : ∀ (n : Nat) (x3 : Int32) (x4 : Int32) (H : Hp), L_X6_openAt_5 nr b1 b2 k n x3 x4 H = some res → V p l e ({ frames := 1, cells := 0, slots := 0, locals := 22 }) s m args below meth c A s.heap (QI below args s A D K4 ad nr res) D K4 ad nr 5 5 [(0, .ref (ad 1 2)), (1, .int b1), (2, .int b2), (3, .int x3), (4, .int x4)] [] H := by
  intro n
  induction n with
  | zero => intro x3 x4 H h; exact nomatch (show (none : Option (Int32 × Hp)) = some res from h)
  | succ n ih =>
    intro x3 x4 H h
    rw [L_X6_openAt_5] at h
    refine V_iload hC 4 dX6_openAt_5 rfl ?_
    refine V_aload_n hC 0 dX6_openAt_7 rfl ?_
    refine V_getI (g := 1) (k := 2) hC 6 3 fl_X6_56 rfl rfl rfl dX6_openAt_8 ?_
    refine V_icmp_ge (tgt := 44) hC dX6_openAt_11 (by decide) (fun c1 => ?_) (fun c1 => ?_)
    · replace h := it_pos c1 h
      refine V_lv (lv' := [(3, .int x3)]) [3] rfl ?_
      exact hk x3 H h
    · replace h := it_neg c1 h
      refine V_aload_n hC 0 dX6_openAt_14 rfl ?_
      refine V_iload hC 4 dX6_openAt_15 rfl ?_
      refine V_iload_n hC 1 dX6_openAt_17 rfl ?_
      obtain ⟨w3, H2, hc, h⟩ := bnd_some h
      refine V_calli (g := 1) (k := 2) (As := [.int x4, .int b1]) (st := []) hC (c_X6_isOf l hc) rfl ml_X6_136 ⟨Nat.le_of_ble_eq_true rfl, Nat.le_of_ble_eq_true rfl⟩ rfl rfl rfl (Nat.le_of_ble_eq_true rfl) dX6_openAt_18 ?_
      refine V_if_eq (tgt := 38) hC dX6_openAt_21 (by decide) (fun c4 => ?_) (fun c4 => ?_)
      · replace h := it_pos c4 h
        refine V_vi h (fun v5 hvv5 h => ?_)
        refine V_iinc (v := v5) (lv' := [(4, .int v5), (0, .ref (ad 1 2)), (1, .int b1), (2, .int b2), (3, .int x3)]) hC 4 dX6_openAt_38 rfl hvv5.symm (Nat.le_of_ble_eq_true rfl) rfl ?_
        refine V_goto (tgt := 5) hC dX6_openAt_41 (by decide) ?_
        refine V_lv (lv' := [(0, .ref (ad 1 2)), (1, .int b1), (2, .int b2), (3, .int x3), (4, .int v5)]) [1, 2, 3, 4, 0] rfl ?_
        exact ih x3 v5 H2 h
      · replace h := it_neg c4 h
        refine V_aload_n hC 0 dX6_openAt_24 rfl ?_
        refine V_getR (g := 1) (k := 2) (g' := 1) (k' := 5) hC 6 1 fl_X6_17 rfl rfl rfl rfl dX6_openAt_25 ?_
        refine V_iload hC 4 dX6_openAt_28 rfl ?_
        obtain ⟨hi, h⟩ := gd_some h
        refine V_iald (g := 1) (k := 5) hC rfl rfl hi dX6_openAt_30 ?_
        refine V_iload_n hC 2 dX6_openAt_31 rfl ?_
        refine V_icmp_ne (tgt := 38) hC dX6_openAt_32 (by decide) (fun c6 => ?_) (fun c6 => ?_)
        · replace h := it_neg c6 h
          refine V_vi h (fun v7 hvv7 h => ?_)
          refine V_iinc (v := v7) (lv' := [(4, .int v7), (0, .ref (ad 1 2)), (1, .int b1), (2, .int b2), (3, .int x3)]) hC 4 dX6_openAt_38 rfl hvv7.symm (Nat.le_of_ble_eq_true rfl) rfl ?_
          refine V_goto (tgt := 5) hC dX6_openAt_41 (by decide) ?_
          refine V_lv (lv' := [(0, .ref (ad 1 2)), (1, .int b1), (2, .int b2), (3, .int x3), (4, .int v7)]) [1, 2, 3, 4, 0] rfl ?_
          exact ih x3 v7 H2 h
        · replace h := it_pos c6 h
          refine V_vi h (fun v8 hvv8 h => ?_)
          refine V_iinc (v := v8) (lv' := [(3, .int v8), (0, .ref (ad 1 2)), (1, .int b1), (2, .int b2), (4, .int x4)]) hC 3 dX6_openAt_35 rfl hvv8.symm (Nat.le_of_ble_eq_true rfl) rfl ?_
          refine V_vi h (fun v9 hvv9 h => ?_)
          refine V_iinc (v := v9) (lv' := [(4, .int v9), (3, .int v8), (0, .ref (ad 1 2)), (1, .int b1), (2, .int b2)]) hC 4 dX6_openAt_38 rfl hvv9.symm (Nat.le_of_ble_eq_true rfl) rfl ?_
          refine V_goto (tgt := 5) hC dX6_openAt_41 (by decide) ?_
          refine V_lv (lv' := [(0, .ref (ad 1 2)), (1, .int b1), (2, .int b2), (3, .int v8), (4, .int v9)]) [2, 3, 4, 1, 0] rfl ?_
          exact ih v8 v9 H2 h
def f_X6_openAt (nr : Nat) (a1 : Int32) (a2 : Int32) (H : Hp) : Option (Int32 × Hp) := L_X6_openAt_5 nr a1 a2 (fun (z10 : Int32) (H11 : Hp) => some (z10, H11)) FU 0 0 H
set_option maxRecDepth 100000 in
set_option maxHeartbeats 4000000 in
theorem s_X6_openAt {p : Program} {l : Launch} {e : Env} {s : State} {m : MethodId} {args : Array Value} {below : List Frame} {meth : Method} {c : Code} {A : Nat → Prop} {D : va_G} {K4 : kQ} {ad : Nat → Nat → Nat} {nr : Nat} {a1 : Int32} {a2 : Int32} {H : Hp} {res : Int32 × Hp} (hC : Cx p s m args c A s.heap D K4 5 RX6 cX6_openAt) (hret : meth.sig.returnType = (some .int) ∧ meth.locks = false) (h : f_X6_openAt nr a1 a2 H = some res) : V p l e ({ frames := 1, cells := 0, slots := 0, locals := 22 }) s m args below meth c A s.heap (QI below args s A D K4 ad nr res) D K4 ad nr 5 0 [(0, .ref (ad 1 2)), (1, .int a1), (2, .int a2)] [] H := by
  unfold f_X6_openAt at h
  refine V_iconst (v := 0) hC dX6_openAt_0 (by decide) ?_
  refine V_istore_n (lv' := [(3, .int 0), (0, .ref (ad 1 2)), (1, .int a1), (2, .int a2)]) hC dX6_openAt_1 (Nat.le_of_ble_eq_true rfl) rfl ?_
  refine V_iconst (v := 0) hC dX6_openAt_2 (by decide) ?_
  refine V_istore (lv' := [(4, .int 0), (3, .int 0), (0, .ref (ad 1 2)), (1, .int a1), (2, .int a2)]) hC dX6_openAt_3 (Nat.le_of_ble_eq_true rfl) rfl ?_
  refine V_lv (lv' := [(0, .ref (ad 1 2)), (1, .int a1), (2, .int a2), (3, .int 0), (4, .int 0)]) [2, 3, 4, 1, 0] rfl ?_
  refine sL_X6_openAt_5 hC hret (fun z10 H11 h => ?_) _ 0 0 H h
  refine V_iload_n hC 0 dX6_openAt_44 rfl ?_
  exact V_iret hC hret dX6_openAt_45 h
theorem c_X6_openAt (l : Launch) {nr : Nat} {a1 : Int32} {a2 : Int32} {H : Hp} {x : Int32} {H' : Hp} (h : f_X6_openAt nr a1 a2 H = some (x, H')) : CI l nr yX6_openAt cX6_openAt 5 (some .int) 1 22 (fun ad => [.ref (ad 1 2), .int a1, .int a2]) H x H' := by
  intro D K4 ad sz
  refine Met.ofV (by decide) (Nat.le_of_ble_eq_true rfl) ?_
  intro p e s m args below meth c hC hret hsz
  subst hsz
  exact s_X6_openAt hC hret h
theorem dX6_hasFrameOf_0 : decode cX6_hasFrameOf 0 = .ok (.iconst 0, 1) := by decide +kernel
theorem dX6_hasFrameOf_1 : decode cX6_hasFrameOf 1 = .ok (.istore_n 2, 1) := by decide +kernel
theorem dX6_hasFrameOf_2 : decode cX6_hasFrameOf 2 = .ok (.iload_n 2, 1) := by decide +kernel
theorem dX6_hasFrameOf_3 : decode cX6_hasFrameOf 3 = .ok (.aload_n 0, 1) := by decide +kernel
theorem dX6_hasFrameOf_4 : decode cX6_hasFrameOf 4 = .ok (.getfield 56, 3) := by decide +kernel
theorem dX6_hasFrameOf_7 : decode cX6_hasFrameOf 7 = .ok (.if_icmp .ge 20, 3) := by decide +kernel
theorem dX6_hasFrameOf_10 : decode cX6_hasFrameOf 10 = .ok (.aload_n 0, 1) := by decide +kernel
theorem dX6_hasFrameOf_11 : decode cX6_hasFrameOf 11 = .ok (.iload_n 2, 1) := by decide +kernel
theorem dX6_hasFrameOf_12 : decode cX6_hasFrameOf 12 = .ok (.iload_n 1, 1) := by decide +kernel
theorem dX6_hasFrameOf_13 : decode cX6_hasFrameOf 13 = .ok (.invokevirtual 136, 3) := by decide +kernel
theorem dX6_hasFrameOf_16 : decode cX6_hasFrameOf 16 = .ok (.ifCond .eq 5, 3) := by decide +kernel
theorem dX6_hasFrameOf_19 : decode cX6_hasFrameOf 19 = .ok (.iconst 1, 1) := by decide +kernel
theorem dX6_hasFrameOf_20 : decode cX6_hasFrameOf 20 = .ok (.ireturn, 1) := by decide +kernel
theorem dX6_hasFrameOf_21 : decode cX6_hasFrameOf 21 = .ok (.iinc 2 1, 3) := by decide +kernel
theorem dX6_hasFrameOf_24 : decode cX6_hasFrameOf 24 = .ok (.goto (-22), 3) := by decide +kernel
theorem dX6_hasFrameOf_27 : decode cX6_hasFrameOf 27 = .ok (.iconst 0, 1) := by decide +kernel
theorem dX6_hasFrameOf_28 : decode cX6_hasFrameOf 28 = .ok (.ireturn, 1) := by decide +kernel
def L_X6_hasFrameOf_2 (nr : Nat) (b1 : Int32) (k : Hp → Option (Int32 × Hp)) : Nat → Int32 → Hp → Option (Int32 × Hp)
  | 0, _, _ => none
  | n + 1, x2, H => if (gI H 1 2 3) ≤ x2 then k H else bnd (f_X6_isOf nr x2 b1 H) (fun w3 H2 => if w3 = 0 then vl (x2 + (1 : Int32)) (fun (v5 : Int32) => L_X6_hasFrameOf_2 nr b1 k n v5 H2) else some (1, H2))
set_option maxRecDepth 100000 in
set_option maxHeartbeats 4000000 in
theorem sL_X6_hasFrameOf_2 {p : Program} {l : Launch} {e : Env} {s : State} {m : MethodId} {args : Array Value} {below : List Frame} {meth : Method} {c : Code} {A : Nat → Prop} {D : va_G} {K4 : kQ} {ad : Nat → Nat → Nat} {nr : Nat} {b1 : Int32} {k : Hp → Option (Int32 × Hp)} {res : Int32 × Hp} (hC : Cx p s m args c A s.heap D K4 3 RX6 cX6_hasFrameOf) (hret : meth.sig.returnType = (some .boolean) ∧ meth.locks = false) (hk : ∀ (H : Hp), k H = some res → V p l e ({ frames := 1, cells := 0, slots := 0, locals := 22 }) s m args below meth c A s.heap (QI below args s A D K4 ad nr res) D K4 ad nr 3 27 [] [] H) : ∀ (n : Nat) (x2 : Int32) (H : Hp), L_X6_hasFrameOf_2 nr b1 k n x2 H = some res → V p l e ({ frames := 1, cells := 0, slots := 0, locals := 22 }) s m args below meth c A s.heap (QI below args s A D K4 ad nr res) D K4 ad nr 3 2 [(0, .ref (ad 1 2)), (1, .int b1), (2, .int x2)] [] H := by
  intro n
  induction n with
  | zero => intro x2 H h; exact nomatch (show (none : Option (Int32 × Hp)) = some res from h)
  | succ n ih =>
    intro x2 H h
    rw [L_X6_hasFrameOf_2] at h
    refine V_iload_n hC 2 dX6_hasFrameOf_2 rfl ?_
    refine V_aload_n hC 0 dX6_hasFrameOf_3 rfl ?_
    refine V_getI (g := 1) (k := 2) hC 6 3 fl_X6_56 rfl rfl rfl dX6_hasFrameOf_4 ?_
    refine V_icmp_ge (tgt := 27) hC dX6_hasFrameOf_7 (by decide) (fun c1 => ?_) (fun c1 => ?_)
    · replace h := it_pos c1 h
      refine V_lv (lv' := []) [] rfl ?_
      exact hk H h
    · replace h := it_neg c1 h
      refine V_aload_n hC 0 dX6_hasFrameOf_10 rfl ?_
      refine V_iload_n hC 2 dX6_hasFrameOf_11 rfl ?_
      refine V_iload_n hC 1 dX6_hasFrameOf_12 rfl ?_
      obtain ⟨w3, H2, hc, h⟩ := bnd_some h
      refine V_calli (g := 1) (k := 2) (As := [.int x2, .int b1]) (st := []) hC (c_X6_isOf l hc) rfl ml_X6_136 ⟨Nat.le_of_ble_eq_true rfl, Nat.le_of_ble_eq_true rfl⟩ rfl rfl rfl (Nat.le_of_ble_eq_true rfl) dX6_hasFrameOf_13 ?_
      refine V_if_eq (tgt := 21) hC dX6_hasFrameOf_16 (by decide) (fun c4 => ?_) (fun c4 => ?_)
      · replace h := it_pos c4 h
        refine V_vi h (fun v5 hvv5 h => ?_)
        refine V_iinc (v := v5) (lv' := [(2, .int v5), (0, .ref (ad 1 2)), (1, .int b1)]) hC 2 dX6_hasFrameOf_21 rfl hvv5.symm (Nat.le_of_ble_eq_true rfl) rfl ?_
        refine V_goto (tgt := 2) hC dX6_hasFrameOf_24 (by decide) ?_
        refine V_lv (lv' := [(0, .ref (ad 1 2)), (1, .int b1), (2, .int v5)]) [1, 2, 0] rfl ?_
        exact ih v5 H2 h
      · replace h := it_neg c4 h
        refine V_iconst (v := 1) hC dX6_hasFrameOf_19 (by decide) ?_
        exact V_zret hC hret (by decide) dX6_hasFrameOf_20 h
def f_X6_hasFrameOf (nr : Nat) (a1 : Int32) (H : Hp) : Option (Int32 × Hp) := L_X6_hasFrameOf_2 nr a1 (fun (H6 : Hp) => some (0, H6)) FU 0 H
set_option maxRecDepth 100000 in
set_option maxHeartbeats 4000000 in
theorem s_X6_hasFrameOf {p : Program} {l : Launch} {e : Env} {s : State} {m : MethodId} {args : Array Value} {below : List Frame} {meth : Method} {c : Code} {A : Nat → Prop} {D : va_G} {K4 : kQ} {ad : Nat → Nat → Nat} {nr : Nat} {a1 : Int32} {H : Hp} {res : Int32 × Hp} (hC : Cx p s m args c A s.heap D K4 3 RX6 cX6_hasFrameOf) (hret : meth.sig.returnType = (some .boolean) ∧ meth.locks = false) (h : f_X6_hasFrameOf nr a1 H = some res) : V p l e ({ frames := 1, cells := 0, slots := 0, locals := 22 }) s m args below meth c A s.heap (QI below args s A D K4 ad nr res) D K4 ad nr 3 0 [(0, .ref (ad 1 2)), (1, .int a1)] [] H := by
  unfold f_X6_hasFrameOf at h
  refine V_iconst (v := 0) hC dX6_hasFrameOf_0 (by decide) ?_
  refine V_istore_n (lv' := [(2, .int 0), (0, .ref (ad 1 2)), (1, .int a1)]) hC dX6_hasFrameOf_1 (Nat.le_of_ble_eq_true rfl) rfl ?_
  refine V_lv (lv' := [(0, .ref (ad 1 2)), (1, .int a1), (2, .int 0)]) [1, 2, 0] rfl ?_
  refine sL_X6_hasFrameOf_2 hC hret (fun H6 h => ?_) _ 0 H h
  refine V_iconst (v := 0) hC dX6_hasFrameOf_27 (by decide) ?_
  exact V_zret hC hret (by decide) dX6_hasFrameOf_28 h
theorem c_X6_hasFrameOf (l : Launch) {nr : Nat} {a1 : Int32} {H : Hp} {x : Int32} {H' : Hp} (h : f_X6_hasFrameOf nr a1 H = some (x, H')) : CI l nr yX6_hasFrameOf cX6_hasFrameOf 3 (some .boolean) 1 22 (fun ad => [.ref (ad 1 2), .int a1]) H x H' := by
  intro D K4 ad sz
  refine Met.ofV (by decide) (Nat.le_of_ble_eq_true rfl) ?_
  intro p e s m args below meth c hC hret hsz
  subst hsz
  exact s_X6_hasFrameOf hC hret h
theorem dX2_planAnew_0 : decode cX2_planAnew 0 = .ok (.aload_n 0, 1) := by decide +kernel
theorem dX2_planAnew_1 : decode cX2_planAnew 1 = .ok (.getfield 31, 3) := by decide +kernel
theorem dX2_planAnew_4 : decode cX2_planAnew 4 = .ok (.invokevirtual 78, 3) := by decide +kernel
theorem dX2_planAnew_7 : decode cX2_planAnew 7 = .ok (.aload_n 0, 1) := by decide +kernel
theorem dX2_planAnew_8 : decode cX2_planAnew 8 = .ok (.getfield 27, 3) := by decide +kernel
theorem dX2_planAnew_11 : decode cX2_planAnew 11 = .ok (.aload_n 0, 1) := by decide +kernel
theorem dX2_planAnew_12 : decode cX2_planAnew 12 = .ok (.getfield 31, 3) := by decide +kernel
theorem dX2_planAnew_15 : decode cX2_planAnew 15 = .ok (.getfield 81, 3) := by decide +kernel
theorem dX2_planAnew_18 : decode cX2_planAnew 18 = .ok (.invokevirtual 84, 3) := by decide +kernel
theorem dX2_planAnew_21 : decode cX2_planAnew 21 = .ok (.aload_n 0, 1) := by decide +kernel
theorem dX2_planAnew_22 : decode cX2_planAnew 22 = .ok (.getfield 38, 3) := by decide +kernel
theorem dX2_planAnew_25 : decode cX2_planAnew 25 = .ok (.invokevirtual 88, 3) := by decide +kernel
theorem dX2_planAnew_28 : decode cX2_planAnew 28 = .ok (.aload_n 0, 1) := by decide +kernel
theorem dX2_planAnew_29 : decode cX2_planAnew 29 = .ok (.getfield 45, 3) := by decide +kernel
theorem dX2_planAnew_32 : decode cX2_planAnew 32 = .ok (.invokevirtual 91, 3) := by decide +kernel
theorem dX2_planAnew_35 : decode cX2_planAnew 35 = .ok (.return_, 1) := by decide +kernel
def f_X2_planAnew (r : Nat) (H : Hp) : Option (Unit × Hp) := bnd (f_X5_grow r H) (fun w2 H1 => bnd (f_X7_lighten r H1) (fun w4 H3 => bnd (f_X0_clear r H3) (fun w6 H5 => bnd (f_X4_clear r H5) (fun w8 H7 => some ((), H7)))))
set_option maxRecDepth 100000 in
set_option maxHeartbeats 4000000 in
theorem s_X2_planAnew {p : Program} {l : Launch} {e : Env} {s : State} {m : MethodId} {args : Array Value} {below : List Frame} {meth : Method} {c : Code} {A : Nat → Prop} {D : va_G} {K4 : kQ} {ad : Nat → Nat → Nat} {nr : Nat} {r : Nat} {H : Hp} {res : Unit × Hp} (hC : Cx p s m args c A s.heap D K4 1 RX2 cX2_planAnew) (hret : meth.sig.returnType = none ∧ meth.locks = false) (hr_r : r < nr) (h : f_X2_planAnew r H = some res) : V p l e ({ frames := 3, cells := 0, slots := 0, locals := 69 }) s m args below meth c A s.heap (QU below args s A D K4 ad nr res) D K4 ad nr 1 0 [(0, .ref (ad (r + 2) 0))] [] H := by
  unfold f_X2_planAnew at h
  refine V_aload_n hC 0 dX2_planAnew_0 rfl ?_
  refine V_getR (g := (r + 2)) (k := 0) (g' := (r + 2)) (k' := 3) hC 2 3 fl_X2_31 (okR hr_r rfl) rfl rfl rfl dX2_planAnew_1 ?_
  obtain ⟨w2, H1, hc, h⟩ := bnd_some h
  refine V_callu (g := (r + 2)) (k := 3) (As := []) (st := []) hC (c_X5_grow l (hr_r := hr_r) hc) rfl ml_X2_78 ⟨Nat.le_of_ble_eq_true rfl, Nat.le_of_ble_eq_true rfl⟩ (okR hr_r rfl) rfl rfl (Nat.le_of_ble_eq_true rfl) dX2_planAnew_4 ?_
  refine V_aload_n hC 0 dX2_planAnew_7 rfl ?_
  refine V_getR (g := (r + 2)) (k := 0) (g' := (r + 2)) (k' := 2) hC 2 2 fl_X2_27 (okR hr_r rfl) rfl rfl rfl dX2_planAnew_8 ?_
  refine V_aload_n hC 0 dX2_planAnew_11 rfl ?_
  refine V_getR (g := (r + 2)) (k := 0) (g' := (r + 2)) (k' := 3) hC 2 3 fl_X2_31 (okR hr_r rfl) rfl rfl rfl dX2_planAnew_12 ?_
  refine V_getR (g := (r + 2)) (k := 3) (g' := (r + 2)) (k' := 26) hC 5 1 fl_X2_81 (okR hr_r rfl) rfl rfl rfl dX2_planAnew_15 ?_
  obtain ⟨w4, H3, hc, h⟩ := bnd_some h
  refine V_callu (g := (r + 2)) (k := 2) (As := [.ref (ad (r + 2) 26)]) (st := []) hC (c_X7_lighten l (hr_r := hr_r) hc) rfl ml_X2_84 ⟨Nat.le_of_ble_eq_true rfl, Nat.le_of_ble_eq_true rfl⟩ (okR hr_r rfl) rfl rfl (Nat.le_of_ble_eq_true rfl) dX2_planAnew_18 ?_
  refine V_aload_n hC 0 dX2_planAnew_21 rfl ?_
  refine V_getR (g := (r + 2)) (k := 0) (g' := (r + 2)) (k' := 4) hC 2 4 fl_X2_38 (okR hr_r rfl) rfl rfl rfl dX2_planAnew_22 ?_
  obtain ⟨w6, H5, hc, h⟩ := bnd_some h
  refine V_callu (g := (r + 2)) (k := 4) (As := []) (st := []) hC (c_X0_clear l (hr_r := hr_r) hc) rfl ml_X2_88 ⟨Nat.le_of_ble_eq_true rfl, Nat.le_of_ble_eq_true rfl⟩ (okR hr_r rfl) rfl rfl (Nat.le_of_ble_eq_true rfl) dX2_planAnew_25 ?_
  refine V_aload_n hC 0 dX2_planAnew_28 rfl ?_
  refine V_getR (g := (r + 2)) (k := 0) (g' := (r + 2)) (k' := 5) hC 2 5 fl_X2_45 (okR hr_r rfl) rfl rfl rfl dX2_planAnew_29 ?_
  obtain ⟨w8, H7, hc, h⟩ := bnd_some h
  refine V_callu (g := (r + 2)) (k := 5) (As := []) (st := []) hC (c_X4_clear l (hr_r := hr_r) hc) rfl ml_X2_91 ⟨Nat.le_of_ble_eq_true rfl, Nat.le_of_ble_eq_true rfl⟩ (okR hr_r rfl) rfl rfl (Nat.le_of_ble_eq_true rfl) dX2_planAnew_32 ?_
  exact V_vret hC hret dX2_planAnew_35 h
theorem c_X2_planAnew (l : Launch) {nr : Nat} {r : Nat} (hr_r : r < nr) {H : Hp} {x : Unit} {H' : Hp} (h : f_X2_planAnew r H = some (x, H')) : CU l nr yX2_planAnew cX2_planAnew 1 none 3 69 (fun ad => [.ref (ad (r + 2) 0)]) H x H' := by
  intro D K4 ad sz
  refine Met.ofV (by decide) (Nat.le_of_ble_eq_true rfl) ?_
  intro p e s m args below meth c hC hret hsz
  subst hsz
  exact s_X2_planAnew hC hret hr_r h
theorem dX2_settle_0 : decode cX2_settle 0 = .ok (.aload_n 0, 1) := by decide +kernel
theorem dX2_settle_1 : decode cX2_settle 1 = .ok (.getfield 63, 3) := by decide +kernel
theorem dX2_settle_4 : decode cX2_settle 4 = .ok (.ifCond .eq 5, 3) := by decide +kernel
theorem dX2_settle_7 : decode cX2_settle 7 = .ok (.iconst 0, 1) := by decide +kernel
theorem dX2_settle_8 : decode cX2_settle 8 = .ok (.ireturn, 1) := by decide +kernel
theorem dX2_settle_9 : decode cX2_settle 9 = .ok (.aload_n 0, 1) := by decide +kernel
theorem dX2_settle_10 : decode cX2_settle 10 = .ok (.getfield 23, 3) := by decide +kernel
theorem dX2_settle_13 : decode cX2_settle 13 = .ok (.invokevirtual 67, 3) := by decide +kernel
theorem dX2_settle_16 : decode cX2_settle 16 = .ok (.istore_n 1, 1) := by decide +kernel
theorem dX2_settle_17 : decode cX2_settle 17 = .ok (.iload_n 1, 1) := by decide +kernel
theorem dX2_settle_18 : decode cX2_settle 18 = .ok (.ifCond .ne 11, 3) := by decide +kernel
theorem dX2_settle_21 : decode cX2_settle 21 = .ok (.aload_n 0, 1) := by decide +kernel
theorem dX2_settle_22 : decode cX2_settle 22 = .ok (.getfield 27, 3) := by decide +kernel
theorem dX2_settle_25 : decode cX2_settle 25 = .ok (.invokevirtual 71, 3) := by decide +kernel
theorem dX2_settle_28 : decode cX2_settle 28 = .ok (.istore_n 1, 1) := by decide +kernel
theorem dX2_settle_29 : decode cX2_settle 29 = .ok (.iload_n 1, 1) := by decide +kernel
theorem dX2_settle_30 : decode cX2_settle 30 = .ok (.ifCond .eq 5, 3) := by decide +kernel
theorem dX2_settle_33 : decode cX2_settle 33 = .ok (.iload_n 1, 1) := by decide +kernel
theorem dX2_settle_34 : decode cX2_settle 34 = .ok (.ireturn, 1) := by decide +kernel
theorem dX2_settle_35 : decode cX2_settle 35 = .ok (.aload_n 0, 1) := by decide +kernel
theorem dX2_settle_36 : decode cX2_settle 36 = .ok (.getfield 23, 3) := by decide +kernel
theorem dX2_settle_39 : decode cX2_settle 39 = .ok (.invokevirtual 72, 3) := by decide +kernel
theorem dX2_settle_42 : decode cX2_settle 42 = .ok (.aload_n 0, 1) := by decide +kernel
theorem dX2_settle_43 : decode cX2_settle 43 = .ok (.iconst 1, 1) := by decide +kernel
theorem dX2_settle_44 : decode cX2_settle 44 = .ok (.putfield 63, 3) := by decide +kernel
theorem dX2_settle_47 : decode cX2_settle 47 = .ok (.aload_n 0, 1) := by decide +kernel
theorem dX2_settle_48 : decode cX2_settle 48 = .ok (.invokevirtual 75, 3) := by decide +kernel
theorem dX2_settle_51 : decode cX2_settle 51 = .ok (.iconst 0, 1) := by decide +kernel
theorem dX2_settle_52 : decode cX2_settle 52 = .ok (.ireturn, 1) := by decide +kernel
def f_X2_settle (r : Nat) (H : Hp) : Option (Int32 × Hp) := if (gI H (r + 2) 0 8) = 0 then bnd (f_X3_firstFault r H) (fun w3 H2 => jn (fun (y5 : Int32) (H6 : Hp) => if y5 = 0 then bnd (f_X3_linkEnd r H6) (fun w9 H8 => hl (sI H8 (r + 2) 0 8 1) (fun (H10 : Hp) => bnd (f_X2_planAnew r H10) (fun w12 H11 => some (0, H11)))) else some (y5, H6)) (fun j4 => if w3 = 0 then bnd (f_X7_firstFault r H2) (fun w15 H14 => j4 w15 H14) else j4 w3 H2)) else some (0, H)
set_option maxRecDepth 100000 in
set_option maxHeartbeats 4000000 in
theorem s_X2_settle {p : Program} {l : Launch} {e : Env} {s : State} {m : MethodId} {args : Array Value} {below : List Frame} {meth : Method} {c : Code} {A : Nat → Prop} {D : va_G} {K4 : kQ} {ad : Nat → Nat → Nat} {nr : Nat} {r : Nat} {H : Hp} {res : Int32 × Hp} (hC : Cx p s m args c A s.heap D K4 2 RX2 cX2_settle) (hret : meth.sig.returnType = (some .int) ∧ meth.locks = false) (hr_r : r < nr) (h : f_X2_settle r H = some res) : V p l e ({ frames := 4, cells := 0, slots := 0, locals := 89 }) s m args below meth c A s.heap (QI below args s A D K4 ad nr res) D K4 ad nr 2 0 [(0, .ref (ad (r + 2) 0))] [] H := by
  unfold f_X2_settle at h
  refine V_aload_n hC 0 dX2_settle_0 rfl ?_
  refine V_getI (g := (r + 2)) (k := 0) hC 2 8 fl_X2_63 (okR hr_r rfl) rfl rfl dX2_settle_1 ?_
  refine V_if_eq (tgt := 9) hC dX2_settle_4 (by decide) (fun c1 => ?_) (fun c1 => ?_)
  · have h := it_pos c1 h
    refine V_aload_n hC 0 dX2_settle_9 rfl ?_
    refine V_getR (g := (r + 2)) (k := 0) (g' := (r + 2)) (k' := 1) hC 2 1 fl_X2_23 (okR hr_r rfl) rfl rfl rfl dX2_settle_10 ?_
    obtain ⟨w3, H2, hc, h⟩ := bnd_some h
    refine V_calli (g := (r + 2)) (k := 1) (As := []) (st := []) hC (c_X3_firstFault l (hr_r := hr_r) hc) rfl ml_X2_67 ⟨Nat.le_of_ble_eq_true rfl, Nat.le_of_ble_eq_true rfl⟩ (okR hr_r rfl) rfl rfl (Nat.le_of_ble_eq_true rfl) dX2_settle_13 ?_
    refine V_istore_n (lv' := [(1, .int w3), (0, .ref (ad (r + 2) 0))]) hC dX2_settle_16 (Nat.le_of_ble_eq_true rfl) rfl ?_
    refine V_iload_n hC 0 dX2_settle_17 rfl ?_
    refine V_jn1 (pj := 29) (lj := fun y5 => [(0, .ref (ad (r + 2) 0)), (1, .int y5)]) (sj := fun y5 => []) h (fun y5 H6 h => ?_) (fun hj4 h => ?_)
    · refine V_iload_n hC 1 dX2_settle_29 rfl ?_
      refine V_if_eq (tgt := 35) hC dX2_settle_30 (by decide) (fun c7 => ?_) (fun c7 => ?_)
      · have h := it_pos c7 h
        refine V_aload_n hC 0 dX2_settle_35 rfl ?_
        refine V_getR (g := (r + 2)) (k := 0) (g' := (r + 2)) (k' := 1) hC 2 1 fl_X2_23 (okR hr_r rfl) rfl rfl rfl dX2_settle_36 ?_
        obtain ⟨w9, H8, hc, h⟩ := bnd_some h
        refine V_callu (g := (r + 2)) (k := 1) (As := []) (st := []) hC (c_X3_linkEnd l (hr_r := hr_r) hc) rfl ml_X2_72 ⟨Nat.le_of_ble_eq_true rfl, Nat.le_of_ble_eq_true rfl⟩ (okR hr_r rfl) rfl rfl (Nat.le_of_ble_eq_true rfl) dX2_settle_39 ?_
        refine V_aload_n hC 0 dX2_settle_42 rfl ?_
        refine V_iconst (v := 1) hC dX2_settle_43 (by decide) ?_
        refine V_putI (g := (r + 2)) (k := 0) hC 2 8 .boolean fw_X2_63 (okR hr_r rfl) rfl rfl (by decide) (by decide) dX2_settle_44 ?_
        refine V_hl h (fun H10 h => ?_)
        refine V_aload_n hC 0 dX2_settle_47 rfl ?_
        obtain ⟨w12, H11, hc, h⟩ := bnd_some h
        refine V_callu (g := (r + 2)) (k := 0) (As := []) (st := []) hC (c_X2_planAnew l (hr_r := hr_r) hc) rfl ml_X2_75 ⟨Nat.le_of_ble_eq_true rfl, Nat.le_of_ble_eq_true rfl⟩ (okR hr_r rfl) rfl rfl (Nat.le_of_ble_eq_true rfl) dX2_settle_48 ?_
        refine V_iconst (v := 0) hC dX2_settle_51 (by decide) ?_
        exact V_iret hC hret dX2_settle_52 h
      · have h := it_neg c7 h
        refine V_iload_n hC 1 dX2_settle_33 rfl ?_
        exact V_iret hC hret dX2_settle_34 h
    · refine V_if_ne (tgt := 29) hC dX2_settle_18 (by decide) (fun c13 => ?_) (fun c13 => ?_)
      · have h := it_neg c13 h
        refine V_lv (lv' := [(0, .ref (ad (r + 2) 0)), (1, .int w3)]) [1, 0] rfl ?_
        exact hj4 w3 H2 h
      · have h := it_pos c13 h
        refine V_aload_n hC 1 dX2_settle_21 rfl ?_
        refine V_getR (g := (r + 2)) (k := 0) (g' := (r + 2)) (k' := 2) hC 2 2 fl_X2_27 (okR hr_r rfl) rfl rfl rfl dX2_settle_22 ?_
        obtain ⟨w15, H14, hc, h⟩ := bnd_some h
        refine V_calli (g := (r + 2)) (k := 2) (As := []) (st := []) hC (c_X7_firstFault l (hr_r := hr_r) hc) rfl ml_X2_71 ⟨Nat.le_of_ble_eq_true rfl, Nat.le_of_ble_eq_true rfl⟩ (okR hr_r rfl) rfl rfl (Nat.le_of_ble_eq_true rfl) dX2_settle_25 ?_
        refine V_istore_n (lv' := [(1, .int w15), (0, .ref (ad (r + 2) 0))]) hC dX2_settle_28 (Nat.le_of_ble_eq_true rfl) rfl ?_
        refine V_lv (lv' := [(0, .ref (ad (r + 2) 0)), (1, .int w15)]) [1, 0] rfl ?_
        exact hj4 w15 H14 h
  · have h := it_neg c1 h
    refine V_iconst (v := 0) hC dX2_settle_7 (by decide) ?_
    exact V_iret hC hret dX2_settle_8 h
theorem c_X2_settle (l : Launch) {nr : Nat} {r : Nat} (hr_r : r < nr) {H : Hp} {x : Int32} {H' : Hp} (h : f_X2_settle r H = some (x, H')) : CI l nr yX2_settle cX2_settle 2 (some .int) 4 89 (fun ad => [.ref (ad (r + 2) 0)]) H x H' := by
  intro D K4 ad sz
  refine Met.ofV (by decide) (Nat.le_of_ble_eq_true rfl) ?_
  intro p e s m args below meth c hC hret hsz
  subst hsz
  exact s_X2_settle hC hret hr_r h
theorem dX2_hasCounter_0 : decode cX2_hasCounter 0 = .ok (.aload_n 0, 1) := by decide +kernel
theorem dX2_hasCounter_1 : decode cX2_hasCounter 1 = .ok (.getfield 63, 3) := by decide +kernel
theorem dX2_hasCounter_4 : decode cX2_hasCounter 4 = .ok (.ifCond .eq 30, 3) := by decide +kernel
theorem dX2_hasCounter_7 : decode cX2_hasCounter 7 = .ok (.aload_n 0, 1) := by decide +kernel
theorem dX2_hasCounter_8 : decode cX2_hasCounter 8 = .ok (.getfield 23, 3) := by decide +kernel
theorem dX2_hasCounter_11 : decode cX2_hasCounter 11 = .ok (.iload_n 1, 1) := by decide +kernel
theorem dX2_hasCounter_12 : decode cX2_hasCounter 12 = .ok (.invokevirtual 92, 3) := by decide +kernel
theorem dX2_hasCounter_15 : decode cX2_hasCounter 15 = .ok (.ifCond .eq 19, 3) := by decide +kernel
theorem dX2_hasCounter_18 : decode cX2_hasCounter 18 = .ok (.aload_n 0, 1) := by decide +kernel
theorem dX2_hasCounter_19 : decode cX2_hasCounter 19 = .ok (.getfield 31, 3) := by decide +kernel
theorem dX2_hasCounter_22 : decode cX2_hasCounter 22 = .ok (.getfield 96, 3) := by decide +kernel
theorem dX2_hasCounter_25 : decode cX2_hasCounter 25 = .ok (.iload_n 1, 1) := by decide +kernel
theorem dX2_hasCounter_26 : decode cX2_hasCounter 26 = .ok (.baload, 1) := by decide +kernel
theorem dX2_hasCounter_27 : decode cX2_hasCounter 27 = .ok (.ifCond .ne 7, 3) := by decide +kernel
theorem dX2_hasCounter_30 : decode cX2_hasCounter 30 = .ok (.iconst 1, 1) := by decide +kernel
theorem dX2_hasCounter_31 : decode cX2_hasCounter 31 = .ok (.goto 4, 3) := by decide +kernel
theorem dX2_hasCounter_34 : decode cX2_hasCounter 34 = .ok (.iconst 0, 1) := by decide +kernel
theorem dX2_hasCounter_35 : decode cX2_hasCounter 35 = .ok (.ireturn, 1) := by decide +kernel
def f_X2_hasCounter (r : Nat) (a1 : Int32) (H : Hp) : Option (Int32 × Hp) := if (gI H (r + 2) 0 8) = 0 then some (0, H) else bnd (f_X3_hasEdge r a1 H) (fun w3 H2 => if w3 = 0 then some (0, H2) else gd a1 61 (if (gI H2 (r + 2) 27 (Int32.toNatClampNeg a1)) = 0 then some (1, H2) else some (0, H2)))
set_option maxRecDepth 100000 in
set_option maxHeartbeats 4000000 in
theorem s_X2_hasCounter {p : Program} {l : Launch} {e : Env} {s : State} {m : MethodId} {args : Array Value} {below : List Frame} {meth : Method} {c : Code} {A : Nat → Prop} {D : va_G} {K4 : kQ} {ad : Nat → Nat → Nat} {nr : Nat} {r : Nat} {a1 : Int32} {H : Hp} {res : Int32 × Hp} (hC : Cx p s m args c A s.heap D K4 2 RX2 cX2_hasCounter) (hret : meth.sig.returnType = (some .boolean) ∧ meth.locks = false) (hr_r : r < nr) (h : f_X2_hasCounter r a1 H = some res) : V p l e ({ frames := 1, cells := 0, slots := 0, locals := 21 }) s m args below meth c A s.heap (QI below args s A D K4 ad nr res) D K4 ad nr 2 0 [(0, .ref (ad (r + 2) 0)), (1, .int a1)] [] H := by
  unfold f_X2_hasCounter at h
  refine V_aload_n hC 0 dX2_hasCounter_0 rfl ?_
  refine V_getI (g := (r + 2)) (k := 0) hC 2 8 fl_X2_63 (okR hr_r rfl) rfl rfl dX2_hasCounter_1 ?_
  refine V_if_eq (tgt := 34) hC dX2_hasCounter_4 (by decide) (fun c1 => ?_) (fun c1 => ?_)
  · have h := it_pos c1 h
    refine V_iconst (v := 0) hC dX2_hasCounter_34 (by decide) ?_
    exact V_zret hC hret (by decide) dX2_hasCounter_35 h
  · have h := it_neg c1 h
    refine V_aload_n hC 0 dX2_hasCounter_7 rfl ?_
    refine V_getR (g := (r + 2)) (k := 0) (g' := (r + 2)) (k' := 1) hC 2 1 fl_X2_23 (okR hr_r rfl) rfl rfl rfl dX2_hasCounter_8 ?_
    refine V_iload_n hC 1 dX2_hasCounter_11 rfl ?_
    obtain ⟨w3, H2, hc, h⟩ := bnd_some h
    refine V_calli (g := (r + 2)) (k := 1) (As := [.int a1]) (st := []) hC (c_X3_hasEdge l (hr_r := hr_r) hc) rfl ml_X2_92 ⟨Nat.le_of_ble_eq_true rfl, Nat.le_of_ble_eq_true rfl⟩ (okR hr_r rfl) rfl rfl (Nat.le_of_ble_eq_true rfl) dX2_hasCounter_12 ?_
    refine V_if_eq (tgt := 34) hC dX2_hasCounter_15 (by decide) (fun c4 => ?_) (fun c4 => ?_)
    · have h := it_pos c4 h
      refine V_iconst (v := 0) hC dX2_hasCounter_34 (by decide) ?_
      exact V_zret hC hret (by decide) dX2_hasCounter_35 h
    · have h := it_neg c4 h
      refine V_aload_n hC 0 dX2_hasCounter_18 rfl ?_
      refine V_getR (g := (r + 2)) (k := 0) (g' := (r + 2)) (k' := 3) hC 2 3 fl_X2_31 (okR hr_r rfl) rfl rfl rfl dX2_hasCounter_19 ?_
      refine V_getR (g := (r + 2)) (k := 3) (g' := (r + 2)) (k' := 27) hC 5 2 fl_X2_96 (okR hr_r rfl) rfl rfl rfl dX2_hasCounter_22 ?_
      refine V_iload_n hC 1 dX2_hasCounter_25 rfl ?_
      obtain ⟨hi, h⟩ := gd_some h
      refine V_zald (g := (r + 2)) (k := 27) hC (okR hr_r rfl) rfl hi dX2_hasCounter_26 ?_
      refine V_if_ne (tgt := 34) hC dX2_hasCounter_27 (by decide) (fun c5 => ?_) (fun c5 => ?_)
      · have h := it_neg c5 h
        refine V_iconst (v := 0) hC dX2_hasCounter_34 (by decide) ?_
        exact V_zret hC hret (by decide) dX2_hasCounter_35 h
      · have h := it_pos c5 h
        refine V_iconst (v := 1) hC dX2_hasCounter_30 (by decide) ?_
        refine V_goto (tgt := 35) hC dX2_hasCounter_31 (by decide) ?_
        exact V_zret hC hret (by decide) dX2_hasCounter_35 h
theorem c_X2_hasCounter (l : Launch) {nr : Nat} {r : Nat} (hr_r : r < nr) {a1 : Int32} {H : Hp} {x : Int32} {H' : Hp} (h : f_X2_hasCounter r a1 H = some (x, H')) : CI l nr yX2_hasCounter cX2_hasCounter 2 (some .boolean) 1 21 (fun ad => [.ref (ad (r + 2) 0), .int a1]) H x H' := by
  intro D K4 ad sz
  refine Met.ofV (by decide) (Nat.le_of_ble_eq_true rfl) ?_
  intro p e s m args below meth c hC hret hsz
  subst hsz
  exact s_X2_hasCounter hC hret hr_r h
theorem dX2_ofItself_0 : decode cX2_ofItself 0 = .ok (.iload_n 1, 1) := by decide +kernel
theorem dX2_ofItself_1 : decode cX2_ofItself 1 = .ok (.iconst 2, 1) := by decide +kernel
theorem dX2_ofItself_2 : decode cX2_ofItself 2 = .ok (.if_icmp .le 12, 3) := by decide +kernel
theorem dX2_ofItself_5 : decode cX2_ofItself 5 = .ok (.aload_n 0, 1) := by decide +kernel
theorem dX2_ofItself_6 : decode cX2_ofItself 6 = .ok (.getfield 63, 3) := by decide +kernel
theorem dX2_ofItself_9 : decode cX2_ofItself 9 = .ok (.ifCond .ne 5, 3) := by decide +kernel
theorem dX2_ofItself_12 : decode cX2_ofItself 12 = .ok (.lconst 0, 1) := by decide +kernel
theorem dX2_ofItself_13 : decode cX2_ofItself 13 = .ok (.lreturn, 1) := by decide +kernel
theorem dX2_ofItself_14 : decode cX2_ofItself 14 = .ok (.iload_n 1, 1) := by decide +kernel
theorem dX2_ofItself_15 : decode cX2_ofItself 15 = .ok (.tableswitch 130 0 8 #[49, 58, 67, 80, 89, 97, 105, 113, 121], 49) := by decide +kernel
theorem dX2_ofItself_64 : decode cX2_ofItself 64 = .ok (.aload_n 0, 1) := by decide +kernel
theorem dX2_ofItself_65 : decode cX2_ofItself 65 = .ok (.getfield 23, 3) := by decide +kernel
theorem dX2_ofItself_68 : decode cX2_ofItself 68 = .ok (.getfield 100, 3) := by decide +kernel
theorem dX2_ofItself_71 : decode cX2_ofItself 71 = .ok (.i2l, 1) := by decide +kernel
theorem dX2_ofItself_72 : decode cX2_ofItself 72 = .ok (.lreturn, 1) := by decide +kernel
theorem dX2_ofItself_73 : decode cX2_ofItself 73 = .ok (.aload_n 0, 1) := by decide +kernel
theorem dX2_ofItself_74 : decode cX2_ofItself 74 = .ok (.getfield 23, 3) := by decide +kernel
theorem dX2_ofItself_77 : decode cX2_ofItself 77 = .ok (.getfield 103, 3) := by decide +kernel
theorem dX2_ofItself_80 : decode cX2_ofItself 80 = .ok (.i2l, 1) := by decide +kernel
theorem dX2_ofItself_81 : decode cX2_ofItself 81 = .ok (.lreturn, 1) := by decide +kernel
theorem dX2_ofItself_82 : decode cX2_ofItself 82 = .ok (.aload_n 0, 1) := by decide +kernel
theorem dX2_ofItself_83 : decode cX2_ofItself 83 = .ok (.getfield 63, 3) := by decide +kernel
theorem dX2_ofItself_86 : decode cX2_ofItself 86 = .ok (.ifCond .eq 7, 3) := by decide +kernel
theorem dX2_ofItself_89 : decode cX2_ofItself 89 = .ok (.lconst 1, 1) := by decide +kernel
theorem dX2_ofItself_90 : decode cX2_ofItself 90 = .ok (.goto 4, 3) := by decide +kernel
theorem dX2_ofItself_93 : decode cX2_ofItself 93 = .ok (.lconst 0, 1) := by decide +kernel
theorem dX2_ofItself_94 : decode cX2_ofItself 94 = .ok (.lreturn, 1) := by decide +kernel
theorem dX2_ofItself_95 : decode cX2_ofItself 95 = .ok (.aload_n 0, 1) := by decide +kernel
theorem dX2_ofItself_96 : decode cX2_ofItself 96 = .ok (.getfield 31, 3) := by decide +kernel
theorem dX2_ofItself_99 : decode cX2_ofItself 99 = .ok (.getfield 106, 3) := by decide +kernel
theorem dX2_ofItself_102 : decode cX2_ofItself 102 = .ok (.i2l, 1) := by decide +kernel
theorem dX2_ofItself_103 : decode cX2_ofItself 103 = .ok (.lreturn, 1) := by decide +kernel
theorem dX2_ofItself_104 : decode cX2_ofItself 104 = .ok (.aload_n 0, 1) := by decide +kernel
theorem dX2_ofItself_105 : decode cX2_ofItself 105 = .ok (.getfield 31, 3) := by decide +kernel
theorem dX2_ofItself_108 : decode cX2_ofItself 108 = .ok (.getfield 109, 3) := by decide +kernel
theorem dX2_ofItself_111 : decode cX2_ofItself 111 = .ok (.lreturn, 1) := by decide +kernel
theorem dX2_ofItself_112 : decode cX2_ofItself 112 = .ok (.aload_n 0, 1) := by decide +kernel
theorem dX2_ofItself_113 : decode cX2_ofItself 113 = .ok (.getfield 27, 3) := by decide +kernel
theorem dX2_ofItself_116 : decode cX2_ofItself 116 = .ok (.getfield 113, 3) := by decide +kernel
theorem dX2_ofItself_119 : decode cX2_ofItself 119 = .ok (.lreturn, 1) := by decide +kernel
theorem dX2_ofItself_120 : decode cX2_ofItself 120 = .ok (.aload_n 0, 1) := by decide +kernel
theorem dX2_ofItself_121 : decode cX2_ofItself 121 = .ok (.getfield 38, 3) := by decide +kernel
theorem dX2_ofItself_124 : decode cX2_ofItself 124 = .ok (.getfield 116, 3) := by decide +kernel
theorem dX2_ofItself_127 : decode cX2_ofItself 127 = .ok (.lreturn, 1) := by decide +kernel
theorem dX2_ofItself_128 : decode cX2_ofItself 128 = .ok (.aload_n 0, 1) := by decide +kernel
theorem dX2_ofItself_129 : decode cX2_ofItself 129 = .ok (.getfield 45, 3) := by decide +kernel
theorem dX2_ofItself_132 : decode cX2_ofItself 132 = .ok (.getfield 119, 3) := by decide +kernel
theorem dX2_ofItself_135 : decode cX2_ofItself 135 = .ok (.lreturn, 1) := by decide +kernel
theorem dX2_ofItself_136 : decode cX2_ofItself 136 = .ok (.aload_n 0, 1) := by decide +kernel
theorem dX2_ofItself_137 : decode cX2_ofItself 137 = .ok (.getfield 45, 3) := by decide +kernel
theorem dX2_ofItself_140 : decode cX2_ofItself 140 = .ok (.getfield 122, 3) := by decide +kernel
theorem dX2_ofItself_143 : decode cX2_ofItself 143 = .ok (.i2l, 1) := by decide +kernel
theorem dX2_ofItself_144 : decode cX2_ofItself 144 = .ok (.lreturn, 1) := by decide +kernel
theorem dX2_ofItself_145 : decode cX2_ofItself 145 = .ok (.aload_n 0, 1) := by decide +kernel
theorem dX2_ofItself_146 : decode cX2_ofItself 146 = .ok (.getfield 38, 3) := by decide +kernel
theorem dX2_ofItself_149 : decode cX2_ofItself 149 = .ok (.getfield 125, 3) := by decide +kernel
theorem dX2_ofItself_152 : decode cX2_ofItself 152 = .ok (.lreturn, 1) := by decide +kernel
def f_X2_ofItself (r : Nat) (a1 : Int32) (H : Hp) : Option (Int64 × Hp) := jn (fun (H2 : Hp) => if a1 = 0 then some ((Int32.toInt64 (gI H2 (r + 2) 1 10)), H2) else (if a1 = 1 then some ((Int32.toInt64 (gI H2 (r + 2) 1 11)), H2) else (if a1 = 2 then if (gI H2 (r + 2) 0 8) = 0 then some (0, H2) else some (1, H2) else (if a1 = 3 then some ((Int32.toInt64 (gI H2 (r + 2) 3 10)), H2) else (if a1 = 4 then some ((gJ H2 (r + 2) 3 11), H2) else (if a1 = 5 then some ((gJ H2 (r + 2) 2 10), H2) else (if a1 = 6 then some ((gJ H2 (r + 2) 4 3), H2) else (if a1 = 7 then some ((gJ H2 (r + 2) 5 3), H2) else (if a1 = 8 then some ((Int32.toInt64 (gI H2 (r + 2) 5 2)), H2) else (some ((gJ H2 (r + 2) 4 4), H2))))))))))) (fun j1 => if a1 ≤ 2 then j1 H else if (gI H (r + 2) 0 8) = 0 then some (0, H) else j1 H)
set_option maxRecDepth 100000 in
set_option maxHeartbeats 4000000 in
theorem s_X2_ofItself {p : Program} {l : Launch} {e : Env} {s : State} {m : MethodId} {args : Array Value} {below : List Frame} {meth : Method} {c : Code} {A : Nat → Prop} {D : va_G} {K4 : kQ} {ad : Nat → Nat → Nat} {nr : Nat} {r : Nat} {a1 : Int32} {H : Hp} {res : Int64 × Hp} (hC : Cx p s m args c A s.heap D K4 2 RX2 cX2_ofItself) (hret : meth.sig.returnType = (some .long) ∧ meth.locks = false) (hr_r : r < nr) (h : f_X2_ofItself r a1 H = some res) : V p l e ({ frames := 0, cells := 0, slots := 0, locals := 0 }) s m args below meth c A s.heap (QJ below args s A D K4 ad nr res) D K4 ad nr 2 0 [(0, .ref (ad (r + 2) 0)), (1, .int a1)] [] H := by
  unfold f_X2_ofItself at h
  refine V_iload_n hC 1 dX2_ofItself_0 rfl ?_
  refine V_iconst (v := 2) hC dX2_ofItself_1 (by decide) ?_
  refine V_jn0 (pj := 14) (lj := [(0, .ref (ad (r + 2) 0)), (1, .int a1)]) (sj := []) h (fun H2 h => ?_) (fun hj1 h => ?_)
  · refine V_iload_n hC 1 dX2_ofItself_14 rfl ?_
    by_cases c3 : a1 = 0
    · have h := it_pos c3 h
      refine V_tabE c3 ?_
      refine V_tabIn (tgt := 64) hC dX2_ofItself_15 (by decide) (by decide) rfl (by decide) ?_
      refine V_aload_n hC 0 dX2_ofItself_64 rfl ?_
      refine V_getR (g := (r + 2)) (k := 0) (g' := (r + 2)) (k' := 1) hC 2 1 fl_X2_23 (okR hr_r rfl) rfl rfl rfl dX2_ofItself_65 ?_
      refine V_getI (g := (r + 2)) (k := 1) hC 3 10 fl_X2_100 (okR hr_r rfl) rfl rfl dX2_ofItself_68 ?_
      refine V_i2l hC dX2_ofItself_71 ?_
      exact V_lret hC hret dX2_ofItself_72 h
    · have h := it_neg c3 h
      by_cases c4 : a1 = 1
      · have h := it_pos c4 h
        refine V_tabE c4 ?_
        refine V_tabIn (tgt := 73) hC dX2_ofItself_15 (by decide) (by decide) rfl (by decide) ?_
        refine V_aload_n hC 0 dX2_ofItself_73 rfl ?_
        refine V_getR (g := (r + 2)) (k := 0) (g' := (r + 2)) (k' := 1) hC 2 1 fl_X2_23 (okR hr_r rfl) rfl rfl rfl dX2_ofItself_74 ?_
        refine V_getI (g := (r + 2)) (k := 1) hC 3 11 fl_X2_103 (okR hr_r rfl) rfl rfl dX2_ofItself_77 ?_
        refine V_i2l hC dX2_ofItself_80 ?_
        exact V_lret hC hret dX2_ofItself_81 h
      · have h := it_neg c4 h
        by_cases c5 : a1 = 2
        · have h := it_pos c5 h
          refine V_tabE c5 ?_
          refine V_tabIn (tgt := 82) hC dX2_ofItself_15 (by decide) (by decide) rfl (by decide) ?_
          refine V_aload_n hC 0 dX2_ofItself_82 rfl ?_
          refine V_getI (g := (r + 2)) (k := 0) hC 2 8 fl_X2_63 (okR hr_r rfl) rfl rfl dX2_ofItself_83 ?_
          refine V_if_eq (tgt := 93) hC dX2_ofItself_86 (by decide) (fun c12 => ?_) (fun c12 => ?_)
          · have h := it_pos c12 h
            refine V_lconst (v := 0) hC dX2_ofItself_93 (by decide) ?_
            exact V_lret hC hret dX2_ofItself_94 h
          · have h := it_neg c12 h
            refine V_lconst (v := 1) hC dX2_ofItself_89 (by decide) ?_
            refine V_goto (tgt := 94) hC dX2_ofItself_90 (by decide) ?_
            exact V_lret hC hret dX2_ofItself_94 h
        · have h := it_neg c5 h
          by_cases c6 : a1 = 3
          · have h := it_pos c6 h
            refine V_tabE c6 ?_
            refine V_tabIn (tgt := 95) hC dX2_ofItself_15 (by decide) (by decide) rfl (by decide) ?_
            refine V_aload_n hC 0 dX2_ofItself_95 rfl ?_
            refine V_getR (g := (r + 2)) (k := 0) (g' := (r + 2)) (k' := 3) hC 2 3 fl_X2_31 (okR hr_r rfl) rfl rfl rfl dX2_ofItself_96 ?_
            refine V_getI (g := (r + 2)) (k := 3) hC 5 10 fl_X2_106 (okR hr_r rfl) rfl rfl dX2_ofItself_99 ?_
            refine V_i2l hC dX2_ofItself_102 ?_
            exact V_lret hC hret dX2_ofItself_103 h
          · have h := it_neg c6 h
            by_cases c7 : a1 = 4
            · have h := it_pos c7 h
              refine V_tabE c7 ?_
              refine V_tabIn (tgt := 104) hC dX2_ofItself_15 (by decide) (by decide) rfl (by decide) ?_
              refine V_aload_n hC 0 dX2_ofItself_104 rfl ?_
              refine V_getR (g := (r + 2)) (k := 0) (g' := (r + 2)) (k' := 3) hC 2 3 fl_X2_31 (okR hr_r rfl) rfl rfl rfl dX2_ofItself_105 ?_
              refine V_getJ (g := (r + 2)) (k := 3) hC 5 11 fl_X2_109 (okR hr_r rfl) rfl rfl dX2_ofItself_108 ?_
              exact V_lret hC hret dX2_ofItself_111 h
            · have h := it_neg c7 h
              by_cases c8 : a1 = 5
              · have h := it_pos c8 h
                refine V_tabE c8 ?_
                refine V_tabIn (tgt := 112) hC dX2_ofItself_15 (by decide) (by decide) rfl (by decide) ?_
                refine V_aload_n hC 0 dX2_ofItself_112 rfl ?_
                refine V_getR (g := (r + 2)) (k := 0) (g' := (r + 2)) (k' := 2) hC 2 2 fl_X2_27 (okR hr_r rfl) rfl rfl rfl dX2_ofItself_113 ?_
                refine V_getJ (g := (r + 2)) (k := 2) hC 7 10 fl_X2_113 (okR hr_r rfl) rfl rfl dX2_ofItself_116 ?_
                exact V_lret hC hret dX2_ofItself_119 h
              · have h := it_neg c8 h
                by_cases c9 : a1 = 6
                · have h := it_pos c9 h
                  refine V_tabE c9 ?_
                  refine V_tabIn (tgt := 120) hC dX2_ofItself_15 (by decide) (by decide) rfl (by decide) ?_
                  refine V_aload_n hC 0 dX2_ofItself_120 rfl ?_
                  refine V_getR (g := (r + 2)) (k := 0) (g' := (r + 2)) (k' := 4) hC 2 4 fl_X2_38 (okR hr_r rfl) rfl rfl rfl dX2_ofItself_121 ?_
                  refine V_getJ (g := (r + 2)) (k := 4) hC 0 3 fl_X2_116 (okR hr_r rfl) rfl rfl dX2_ofItself_124 ?_
                  exact V_lret hC hret dX2_ofItself_127 h
                · have h := it_neg c9 h
                  by_cases c10 : a1 = 7
                  · have h := it_pos c10 h
                    refine V_tabE c10 ?_
                    refine V_tabIn (tgt := 128) hC dX2_ofItself_15 (by decide) (by decide) rfl (by decide) ?_
                    refine V_aload_n hC 0 dX2_ofItself_128 rfl ?_
                    refine V_getR (g := (r + 2)) (k := 0) (g' := (r + 2)) (k' := 5) hC 2 5 fl_X2_45 (okR hr_r rfl) rfl rfl rfl dX2_ofItself_129 ?_
                    refine V_getJ (g := (r + 2)) (k := 5) hC 4 3 fl_X2_119 (okR hr_r rfl) rfl rfl dX2_ofItself_132 ?_
                    exact V_lret hC hret dX2_ofItself_135 h
                  · have h := it_neg c10 h
                    by_cases c11 : a1 = 8
                    · have h := it_pos c11 h
                      refine V_tabE c11 ?_
                      refine V_tabIn (tgt := 136) hC dX2_ofItself_15 (by decide) (by decide) rfl (by decide) ?_
                      refine V_aload_n hC 0 dX2_ofItself_136 rfl ?_
                      refine V_getR (g := (r + 2)) (k := 0) (g' := (r + 2)) (k' := 5) hC 2 5 fl_X2_45 (okR hr_r rfl) rfl rfl rfl dX2_ofItself_137 ?_
                      refine V_getI (g := (r + 2)) (k := 5) hC 4 2 fl_X2_122 (okR hr_r rfl) rfl rfl dX2_ofItself_140 ?_
                      refine V_i2l hC dX2_ofItself_143 ?_
                      exact V_lret hC hret dX2_ofItself_144 h
                    · have h := it_neg c11 h
                      have tc3 : Int32.toInt a1 ≠ (0 : Int) := i32ne c3
                      have tc4 : Int32.toInt a1 ≠ (1 : Int) := i32ne c4
                      have tc5 : Int32.toInt a1 ≠ (2 : Int) := i32ne c5
                      have tc6 : Int32.toInt a1 ≠ (3 : Int) := i32ne c6
                      have tc7 : Int32.toInt a1 ≠ (4 : Int) := i32ne c7
                      have tc8 : Int32.toInt a1 ≠ (5 : Int) := i32ne c8
                      have tc9 : Int32.toInt a1 ≠ (6 : Int) := i32ne c9
                      have tc10 : Int32.toInt a1 ≠ (7 : Int) := i32ne c10
                      have tc11 : Int32.toInt a1 ≠ (8 : Int) := i32ne c11
                      refine V_tabOut (tgt := 145) hC dX2_ofItself_15 (by omega) (by decide) ?_
                      refine V_aload_n hC 0 dX2_ofItself_145 rfl ?_
                      refine V_getR (g := (r + 2)) (k := 0) (g' := (r + 2)) (k' := 4) hC 2 4 fl_X2_38 (okR hr_r rfl) rfl rfl rfl dX2_ofItself_146 ?_
                      refine V_getJ (g := (r + 2)) (k := 4) hC 0 4 fl_X2_125 (okR hr_r rfl) rfl rfl dX2_ofItself_149 ?_
                      exact V_lret hC hret dX2_ofItself_152 h
  · refine V_icmp_le (tgt := 14) hC dX2_ofItself_2 (by decide) (fun c13 => ?_) (fun c13 => ?_)
    · have h := it_pos c13 h
      refine V_lv (lv' := [(0, .ref (ad (r + 2) 0)), (1, .int a1)]) [0, 1] rfl ?_
      exact hj1 H h
    · have h := it_neg c13 h
      refine V_aload_n hC 0 dX2_ofItself_5 rfl ?_
      refine V_getI (g := (r + 2)) (k := 0) hC 2 8 fl_X2_63 (okR hr_r rfl) rfl rfl dX2_ofItself_6 ?_
      refine V_if_ne (tgt := 14) hC dX2_ofItself_9 (by decide) (fun c14 => ?_) (fun c14 => ?_)
      · have h := it_neg c14 h
        refine V_lv (lv' := [(0, .ref (ad (r + 2) 0)), (1, .int a1)]) [0, 1] rfl ?_
        exact hj1 H h
      · have h := it_pos c14 h
        refine V_lconst (v := 0) hC dX2_ofItself_12 (by decide) ?_
        exact V_lret hC hret dX2_ofItself_13 h
theorem c_X2_ofItself (l : Launch) {nr : Nat} {r : Nat} (hr_r : r < nr) {a1 : Int32} {H : Hp} {x : Int64} {H' : Hp} (h : f_X2_ofItself r a1 H = some (x, H')) : CJ l nr yX2_ofItself cX2_ofItself 2 (some .long) 0 0 (fun ad => [.ref (ad (r + 2) 0), .int a1]) H x H' := by
  intro D K4 ad sz
  refine Met.ofV (by decide) (Nat.le_of_ble_eq_true rfl) ?_
  intro p e s m args below meth c hC hret hsz
  subst hsz
  exact s_X2_ofItself hC hret hr_r h
theorem dX2_countOfEdge_0 : decode cX2_countOfEdge 0 = .ok (.iload_n 2, 1) := by decide +kernel
theorem dX2_countOfEdge_1 : decode cX2_countOfEdge 1 = .ok (.iconst 5, 1) := by decide +kernel
theorem dX2_countOfEdge_2 : decode cX2_countOfEdge 2 = .ok (.if_icmp .ne 27, 3) := by decide +kernel
theorem dX2_countOfEdge_5 : decode cX2_countOfEdge 5 = .ok (.aload_n 0, 1) := by decide +kernel
theorem dX2_countOfEdge_6 : decode cX2_countOfEdge 6 = .ok (.iload_n 1, 1) := by decide +kernel
theorem dX2_countOfEdge_7 : decode cX2_countOfEdge 7 = .ok (.invokevirtual 128, 3) := by decide +kernel
theorem dX2_countOfEdge_10 : decode cX2_countOfEdge 10 = .ok (.ifCond .eq 15, 3) := by decide +kernel
theorem dX2_countOfEdge_13 : decode cX2_countOfEdge 13 = .ok (.aload_n 0, 1) := by decide +kernel
theorem dX2_countOfEdge_14 : decode cX2_countOfEdge 14 = .ok (.getfield 23, 3) := by decide +kernel
theorem dX2_countOfEdge_17 : decode cX2_countOfEdge 17 = .ok (.iload_n 1, 1) := by decide +kernel
theorem dX2_countOfEdge_18 : decode cX2_countOfEdge 18 = .ok (.invokevirtual 131, 3) := by decide +kernel
theorem dX2_countOfEdge_21 : decode cX2_countOfEdge 21 = .ok (.i2l, 1) := by decide +kernel
theorem dX2_countOfEdge_22 : decode cX2_countOfEdge 22 = .ok (.goto 6, 3) := by decide +kernel
theorem dX2_countOfEdge_25 : decode cX2_countOfEdge 25 = .ok (.ldc2_w 135, 3) := by decide +kernel
theorem dX2_countOfEdge_28 : decode cX2_countOfEdge 28 = .ok (.lreturn, 1) := by decide +kernel
theorem dX2_countOfEdge_29 : decode cX2_countOfEdge 29 = .ok (.aload_n 0, 1) := by decide +kernel
theorem dX2_countOfEdge_30 : decode cX2_countOfEdge 30 = .ok (.getfield 63, 3) := by decide +kernel
theorem dX2_countOfEdge_33 : decode cX2_countOfEdge 33 = .ok (.ifCond .ne 5, 3) := by decide +kernel
theorem dX2_countOfEdge_36 : decode cX2_countOfEdge 36 = .ok (.lconst 0, 1) := by decide +kernel
theorem dX2_countOfEdge_37 : decode cX2_countOfEdge 37 = .ok (.lreturn, 1) := by decide +kernel
theorem dX2_countOfEdge_38 : decode cX2_countOfEdge 38 = .ok (.iload_n 2, 1) := by decide +kernel
theorem dX2_countOfEdge_39 : decode cX2_countOfEdge 39 = .ok (.tableswitch 77 4 8 #[33, 77, 47, 57, 67], 33) := by decide +kernel
theorem dX2_countOfEdge_72 : decode cX2_countOfEdge 72 = .ok (.aload_n 0, 1) := by decide +kernel
theorem dX2_countOfEdge_73 : decode cX2_countOfEdge 73 = .ok (.iload_n 1, 1) := by decide +kernel
theorem dX2_countOfEdge_74 : decode cX2_countOfEdge 74 = .ok (.invokevirtual 128, 3) := by decide +kernel
theorem dX2_countOfEdge_77 : decode cX2_countOfEdge 77 = .ok (.ifCond .eq 7, 3) := by decide +kernel
theorem dX2_countOfEdge_80 : decode cX2_countOfEdge 80 = .ok (.lconst 1, 1) := by decide +kernel
theorem dX2_countOfEdge_81 : decode cX2_countOfEdge 81 = .ok (.goto 4, 3) := by decide +kernel
theorem dX2_countOfEdge_84 : decode cX2_countOfEdge 84 = .ok (.lconst 0, 1) := by decide +kernel
theorem dX2_countOfEdge_85 : decode cX2_countOfEdge 85 = .ok (.lreturn, 1) := by decide +kernel
theorem dX2_countOfEdge_86 : decode cX2_countOfEdge 86 = .ok (.aload_n 0, 1) := by decide +kernel
theorem dX2_countOfEdge_87 : decode cX2_countOfEdge 87 = .ok (.getfield 38, 3) := by decide +kernel
theorem dX2_countOfEdge_90 : decode cX2_countOfEdge 90 = .ok (.getfield 137, 3) := by decide +kernel
theorem dX2_countOfEdge_93 : decode cX2_countOfEdge 93 = .ok (.iload_n 1, 1) := by decide +kernel
theorem dX2_countOfEdge_94 : decode cX2_countOfEdge 94 = .ok (.laload, 1) := by decide +kernel
theorem dX2_countOfEdge_95 : decode cX2_countOfEdge 95 = .ok (.lreturn, 1) := by decide +kernel
theorem dX2_countOfEdge_96 : decode cX2_countOfEdge 96 = .ok (.aload_n 0, 1) := by decide +kernel
theorem dX2_countOfEdge_97 : decode cX2_countOfEdge 97 = .ok (.getfield 38, 3) := by decide +kernel
theorem dX2_countOfEdge_100 : decode cX2_countOfEdge 100 = .ok (.getfield 140, 3) := by decide +kernel
theorem dX2_countOfEdge_103 : decode cX2_countOfEdge 103 = .ok (.iload_n 1, 1) := by decide +kernel
theorem dX2_countOfEdge_104 : decode cX2_countOfEdge 104 = .ok (.laload, 1) := by decide +kernel
theorem dX2_countOfEdge_105 : decode cX2_countOfEdge 105 = .ok (.lreturn, 1) := by decide +kernel
theorem dX2_countOfEdge_106 : decode cX2_countOfEdge 106 = .ok (.aload_n 0, 1) := by decide +kernel
theorem dX2_countOfEdge_107 : decode cX2_countOfEdge 107 = .ok (.getfield 27, 3) := by decide +kernel
theorem dX2_countOfEdge_110 : decode cX2_countOfEdge 110 = .ok (.getfield 143, 3) := by decide +kernel
theorem dX2_countOfEdge_113 : decode cX2_countOfEdge 113 = .ok (.iload_n 1, 1) := by decide +kernel
theorem dX2_countOfEdge_114 : decode cX2_countOfEdge 114 = .ok (.laload, 1) := by decide +kernel
theorem dX2_countOfEdge_115 : decode cX2_countOfEdge 115 = .ok (.lreturn, 1) := by decide +kernel
theorem dX2_countOfEdge_116 : decode cX2_countOfEdge 116 = .ok (.aload_n 0, 1) := by decide +kernel
theorem dX2_countOfEdge_117 : decode cX2_countOfEdge 117 = .ok (.getfield 27, 3) := by decide +kernel
theorem dX2_countOfEdge_120 : decode cX2_countOfEdge 120 = .ok (.getfield 146, 3) := by decide +kernel
theorem dX2_countOfEdge_123 : decode cX2_countOfEdge 123 = .ok (.iload_n 1, 1) := by decide +kernel
theorem dX2_countOfEdge_124 : decode cX2_countOfEdge 124 = .ok (.laload, 1) := by decide +kernel
theorem dX2_countOfEdge_125 : decode cX2_countOfEdge 125 = .ok (.lreturn, 1) := by decide +kernel
def f_X2_countOfEdge (r : Nat) (a1 : Int32) (a2 : Int32) (H : Hp) : Option (Int64 × Hp) := if a2 = 5 then bnd (f_X2_hasCounter r a1 H) (fun w12 H11 => if w12 = 0 then some ((-1), H11) else bnd (f_X3_standOf r a1 H11) (fun w15 H14 => some ((Int32.toInt64 w15), H14))) else if (gI H (r + 2) 0 8) = 0 then some (0, H) else if a2 = 4 then bnd (f_X2_hasCounter r a1 H) (fun w9 H8 => if w9 = 0 then some (0, H8) else some (1, H8)) else (if a2 = 5 then gd a1 40 (some ((gJ H (r + 2) 22 (Int32.toNatClampNeg a1)), H)) else (if a2 = 6 then gd a1 40 (some ((gJ H (r + 2) 34 (Int32.toNatClampNeg a1)), H)) else (if a2 = 7 then gd a1 40 (some ((gJ H (r + 2) 35 (Int32.toNatClampNeg a1)), H)) else (if a2 = 8 then gd a1 40 (some ((gJ H (r + 2) 21 (Int32.toNatClampNeg a1)), H)) else (gd a1 40 (some ((gJ H (r + 2) 22 (Int32.toNatClampNeg a1)), H)))))))
set_option maxRecDepth 100000 in
set_option maxHeartbeats 4000000 in
theorem s_X2_countOfEdge {p : Program} {l : Launch} {e : Env} {s : State} {m : MethodId} {args : Array Value} {below : List Frame} {meth : Method} {c : Code} {A : Nat → Prop} {D : va_G} {K4 : kQ} {ad : Nat → Nat → Nat} {nr : Nat} {r : Nat} {a1 : Int32} {a2 : Int32} {H : Hp} {res : Int64 × Hp} (hC : Cx p s m args c A s.heap D K4 3 RX2 cX2_countOfEdge) (hret : meth.sig.returnType = (some .long) ∧ meth.locks = false) (hr_r : r < nr) (h : f_X2_countOfEdge r a1 a2 H = some res) : V p l e ({ frames := 2, cells := 0, slots := 0, locals := 42 }) s m args below meth c A s.heap (QJ below args s A D K4 ad nr res) D K4 ad nr 3 0 [(0, .ref (ad (r + 2) 0)), (1, .int a1), (2, .int a2)] [] H := by
  unfold f_X2_countOfEdge at h
  refine V_iload_n hC 2 dX2_countOfEdge_0 rfl ?_
  refine V_iconst (v := 5) hC dX2_countOfEdge_1 (by decide) ?_
  refine V_icmp_ne (tgt := 29) hC dX2_countOfEdge_2 (by decide) (fun c1 => ?_) (fun c1 => ?_)
  · have h := it_neg c1 h
    refine V_aload_n hC 0 dX2_countOfEdge_29 rfl ?_
    refine V_getI (g := (r + 2)) (k := 0) hC 2 8 fl_X2_63 (okR hr_r rfl) rfl rfl dX2_countOfEdge_30 ?_
    refine V_if_ne (tgt := 38) hC dX2_countOfEdge_33 (by decide) (fun c2 => ?_) (fun c2 => ?_)
    · have h := it_neg c2 h
      refine V_iload_n hC 2 dX2_countOfEdge_38 rfl ?_
      by_cases c3 : a2 = 4
      · have h := it_pos c3 h
        refine V_tabE c3 ?_
        refine V_tabIn (tgt := 72) hC dX2_countOfEdge_39 (by decide) (by decide) rfl (by decide) ?_
        refine V_aload_n hC 0 dX2_countOfEdge_72 rfl ?_
        refine V_iload_n hC 1 dX2_countOfEdge_73 rfl ?_
        obtain ⟨w9, H8, hc, h⟩ := bnd_some h
        refine V_calli (g := (r + 2)) (k := 0) (As := [.int a1]) (st := []) hC (c_X2_hasCounter l (hr_r := hr_r) hc) rfl ml_X2_128 ⟨Nat.le_of_ble_eq_true rfl, Nat.le_of_ble_eq_true rfl⟩ (okR hr_r rfl) rfl rfl (Nat.le_of_ble_eq_true rfl) dX2_countOfEdge_74 ?_
        refine V_if_eq (tgt := 84) hC dX2_countOfEdge_77 (by decide) (fun c10 => ?_) (fun c10 => ?_)
        · have h := it_pos c10 h
          refine V_lconst (v := 0) hC dX2_countOfEdge_84 (by decide) ?_
          exact V_lret hC hret dX2_countOfEdge_85 h
        · have h := it_neg c10 h
          refine V_lconst (v := 1) hC dX2_countOfEdge_80 (by decide) ?_
          refine V_goto (tgt := 85) hC dX2_countOfEdge_81 (by decide) ?_
          exact V_lret hC hret dX2_countOfEdge_85 h
      · have h := it_neg c3 h
        by_cases c4 : a2 = 5
        · have h := it_pos c4 h
          refine V_tabE c4 ?_
          refine V_tabIn (tgt := 116) hC dX2_countOfEdge_39 (by decide) (by decide) rfl (by decide) ?_
          refine V_aload_n hC 0 dX2_countOfEdge_116 rfl ?_
          refine V_getR (g := (r + 2)) (k := 0) (g' := (r + 2)) (k' := 2) hC 2 2 fl_X2_27 (okR hr_r rfl) rfl rfl rfl dX2_countOfEdge_117 ?_
          refine V_getR (g := (r + 2)) (k := 2) (g' := (r + 2)) (k' := 22) hC 7 5 fl_X2_146 (okR hr_r rfl) rfl rfl rfl dX2_countOfEdge_120 ?_
          refine V_iload_n hC 1 dX2_countOfEdge_123 rfl ?_
          obtain ⟨hi, h⟩ := gd_some h
          refine V_lald (g := (r + 2)) (k := 22) hC (okR hr_r rfl) rfl hi dX2_countOfEdge_124 ?_
          exact V_lret hC hret dX2_countOfEdge_125 h
        · have h := it_neg c4 h
          by_cases c5 : a2 = 6
          · have h := it_pos c5 h
            refine V_tabE c5 ?_
            refine V_tabIn (tgt := 86) hC dX2_countOfEdge_39 (by decide) (by decide) rfl (by decide) ?_
            refine V_aload_n hC 0 dX2_countOfEdge_86 rfl ?_
            refine V_getR (g := (r + 2)) (k := 0) (g' := (r + 2)) (k' := 4) hC 2 4 fl_X2_38 (okR hr_r rfl) rfl rfl rfl dX2_countOfEdge_87 ?_
            refine V_getR (g := (r + 2)) (k := 4) (g' := (r + 2)) (k' := 34) hC 0 0 fl_X2_137 (okR hr_r rfl) rfl rfl rfl dX2_countOfEdge_90 ?_
            refine V_iload_n hC 1 dX2_countOfEdge_93 rfl ?_
            obtain ⟨hi, h⟩ := gd_some h
            refine V_lald (g := (r + 2)) (k := 34) hC (okR hr_r rfl) rfl hi dX2_countOfEdge_94 ?_
            exact V_lret hC hret dX2_countOfEdge_95 h
          · have h := it_neg c5 h
            by_cases c6 : a2 = 7
            · have h := it_pos c6 h
              refine V_tabE c6 ?_
              refine V_tabIn (tgt := 96) hC dX2_countOfEdge_39 (by decide) (by decide) rfl (by decide) ?_
              refine V_aload_n hC 0 dX2_countOfEdge_96 rfl ?_
              refine V_getR (g := (r + 2)) (k := 0) (g' := (r + 2)) (k' := 4) hC 2 4 fl_X2_38 (okR hr_r rfl) rfl rfl rfl dX2_countOfEdge_97 ?_
              refine V_getR (g := (r + 2)) (k := 4) (g' := (r + 2)) (k' := 35) hC 0 1 fl_X2_140 (okR hr_r rfl) rfl rfl rfl dX2_countOfEdge_100 ?_
              refine V_iload_n hC 1 dX2_countOfEdge_103 rfl ?_
              obtain ⟨hi, h⟩ := gd_some h
              refine V_lald (g := (r + 2)) (k := 35) hC (okR hr_r rfl) rfl hi dX2_countOfEdge_104 ?_
              exact V_lret hC hret dX2_countOfEdge_105 h
            · have h := it_neg c6 h
              by_cases c7 : a2 = 8
              · have h := it_pos c7 h
                refine V_tabE c7 ?_
                refine V_tabIn (tgt := 106) hC dX2_countOfEdge_39 (by decide) (by decide) rfl (by decide) ?_
                refine V_aload_n hC 0 dX2_countOfEdge_106 rfl ?_
                refine V_getR (g := (r + 2)) (k := 0) (g' := (r + 2)) (k' := 2) hC 2 2 fl_X2_27 (okR hr_r rfl) rfl rfl rfl dX2_countOfEdge_107 ?_
                refine V_getR (g := (r + 2)) (k := 2) (g' := (r + 2)) (k' := 21) hC 7 4 fl_X2_143 (okR hr_r rfl) rfl rfl rfl dX2_countOfEdge_110 ?_
                refine V_iload_n hC 1 dX2_countOfEdge_113 rfl ?_
                obtain ⟨hi, h⟩ := gd_some h
                refine V_lald (g := (r + 2)) (k := 21) hC (okR hr_r rfl) rfl hi dX2_countOfEdge_114 ?_
                exact V_lret hC hret dX2_countOfEdge_115 h
              · have h := it_neg c7 h
                have tc3 : Int32.toInt a2 ≠ (4 : Int) := i32ne c3
                have tc4 : Int32.toInt a2 ≠ (5 : Int) := i32ne c4
                have tc5 : Int32.toInt a2 ≠ (6 : Int) := i32ne c5
                have tc6 : Int32.toInt a2 ≠ (7 : Int) := i32ne c6
                have tc7 : Int32.toInt a2 ≠ (8 : Int) := i32ne c7
                refine V_tabOut (tgt := 116) hC dX2_countOfEdge_39 (by omega) (by decide) ?_
                refine V_aload_n hC 0 dX2_countOfEdge_116 rfl ?_
                refine V_getR (g := (r + 2)) (k := 0) (g' := (r + 2)) (k' := 2) hC 2 2 fl_X2_27 (okR hr_r rfl) rfl rfl rfl dX2_countOfEdge_117 ?_
                refine V_getR (g := (r + 2)) (k := 2) (g' := (r + 2)) (k' := 22) hC 7 5 fl_X2_146 (okR hr_r rfl) rfl rfl rfl dX2_countOfEdge_120 ?_
                refine V_iload_n hC 1 dX2_countOfEdge_123 rfl ?_
                obtain ⟨hi, h⟩ := gd_some h
                refine V_lald (g := (r + 2)) (k := 22) hC (okR hr_r rfl) rfl hi dX2_countOfEdge_124 ?_
                exact V_lret hC hret dX2_countOfEdge_125 h
    · have h := it_pos c2 h
      refine V_lconst (v := 0) hC dX2_countOfEdge_36 (by decide) ?_
      exact V_lret hC hret dX2_countOfEdge_37 h
  · have h := it_pos c1 h
    refine V_aload_n hC 0 dX2_countOfEdge_5 rfl ?_
    refine V_iload_n hC 1 dX2_countOfEdge_6 rfl ?_
    obtain ⟨w12, H11, hc, h⟩ := bnd_some h
    refine V_calli (g := (r + 2)) (k := 0) (As := [.int a1]) (st := []) hC (c_X2_hasCounter l (hr_r := hr_r) hc) rfl ml_X2_128 ⟨Nat.le_of_ble_eq_true rfl, Nat.le_of_ble_eq_true rfl⟩ (okR hr_r rfl) rfl rfl (Nat.le_of_ble_eq_true rfl) dX2_countOfEdge_7 ?_
    refine V_if_eq (tgt := 25) hC dX2_countOfEdge_10 (by decide) (fun c13 => ?_) (fun c13 => ?_)
    · have h := it_pos c13 h
      refine V_ldc2 hC dX2_countOfEdge_25 cl_X2_135 ?_
      exact V_lret hC hret dX2_countOfEdge_28 h
    · have h := it_neg c13 h
      refine V_aload_n hC 0 dX2_countOfEdge_13 rfl ?_
      refine V_getR (g := (r + 2)) (k := 0) (g' := (r + 2)) (k' := 1) hC 2 1 fl_X2_23 (okR hr_r rfl) rfl rfl rfl dX2_countOfEdge_14 ?_
      refine V_iload_n hC 1 dX2_countOfEdge_17 rfl ?_
      obtain ⟨w15, H14, hc, h⟩ := bnd_some h
      refine V_calli (g := (r + 2)) (k := 1) (As := [.int a1]) (st := []) hC (c_X3_standOf l (hr_r := hr_r) hc) rfl ml_X2_131 ⟨Nat.le_of_ble_eq_true rfl, Nat.le_of_ble_eq_true rfl⟩ (okR hr_r rfl) rfl rfl (Nat.le_of_ble_eq_true rfl) dX2_countOfEdge_18 ?_
      refine V_i2l hC dX2_countOfEdge_21 ?_
      refine V_goto (tgt := 28) hC dX2_countOfEdge_22 (by decide) ?_
      exact V_lret hC hret dX2_countOfEdge_28 h
theorem c_X2_countOfEdge (l : Launch) {nr : Nat} {r : Nat} (hr_r : r < nr) {a1 : Int32} {a2 : Int32} {H : Hp} {x : Int64} {H' : Hp} (h : f_X2_countOfEdge r a1 a2 H = some (x, H')) : CJ l nr yX2_countOfEdge cX2_countOfEdge 3 (some .long) 2 42 (fun ad => [.ref (ad (r + 2) 0), .int a1, .int a2]) H x H' := by
  intro D K4 ad sz
  refine Met.ofV (by decide) (Nat.le_of_ble_eq_true rfl) ?_
  intro p e s m args below meth c hC hret hsz
  subst hsz
  exact s_X2_countOfEdge hC hret hr_r h
theorem dX2_countOfBlock_0 : decode cX2_countOfBlock 0 = .ok (.aload_n 0, 1) := by decide +kernel
theorem dX2_countOfBlock_1 : decode cX2_countOfBlock 1 = .ok (.getfield 63, 3) := by decide +kernel
theorem dX2_countOfBlock_4 : decode cX2_countOfBlock 4 = .ok (.ifCond .ne 16, 3) := by decide +kernel
theorem dX2_countOfBlock_7 : decode cX2_countOfBlock 7 = .ok (.iload_n 2, 1) := by decide +kernel
theorem dX2_countOfBlock_8 : decode cX2_countOfBlock 8 = .ok (.iconst 5, 1) := by decide +kernel
theorem dX2_countOfBlock_9 : decode cX2_countOfBlock 9 = .ok (.if_icmp .ne 9, 3) := by decide +kernel
theorem dX2_countOfBlock_12 : decode cX2_countOfBlock 12 = .ok (.ldc2_w 135, 3) := by decide +kernel
theorem dX2_countOfBlock_15 : decode cX2_countOfBlock 15 = .ok (.goto 4, 3) := by decide +kernel
theorem dX2_countOfBlock_18 : decode cX2_countOfBlock 18 = .ok (.lconst 0, 1) := by decide +kernel
theorem dX2_countOfBlock_19 : decode cX2_countOfBlock 19 = .ok (.lreturn, 1) := by decide +kernel
theorem dX2_countOfBlock_20 : decode cX2_countOfBlock 20 = .ok (.iload_n 2, 1) := by decide +kernel
theorem dX2_countOfBlock_21 : decode cX2_countOfBlock 21 = .ok (.tableswitch 57 4 6 #[27, 37, 47], 27) := by decide +kernel
theorem dX2_countOfBlock_48 : decode cX2_countOfBlock 48 = .ok (.aload_n 0, 1) := by decide +kernel
theorem dX2_countOfBlock_49 : decode cX2_countOfBlock 49 = .ok (.getfield 27, 3) := by decide +kernel
theorem dX2_countOfBlock_52 : decode cX2_countOfBlock 52 = .ok (.getfield 149, 3) := by decide +kernel
theorem dX2_countOfBlock_55 : decode cX2_countOfBlock 55 = .ok (.iload_n 1, 1) := by decide +kernel
theorem dX2_countOfBlock_56 : decode cX2_countOfBlock 56 = .ok (.laload, 1) := by decide +kernel
theorem dX2_countOfBlock_57 : decode cX2_countOfBlock 57 = .ok (.lreturn, 1) := by decide +kernel
theorem dX2_countOfBlock_58 : decode cX2_countOfBlock 58 = .ok (.aload_n 0, 1) := by decide +kernel
theorem dX2_countOfBlock_59 : decode cX2_countOfBlock 59 = .ok (.getfield 27, 3) := by decide +kernel
theorem dX2_countOfBlock_62 : decode cX2_countOfBlock 62 = .ok (.getfield 152, 3) := by decide +kernel
theorem dX2_countOfBlock_65 : decode cX2_countOfBlock 65 = .ok (.iload_n 1, 1) := by decide +kernel
theorem dX2_countOfBlock_66 : decode cX2_countOfBlock 66 = .ok (.laload, 1) := by decide +kernel
theorem dX2_countOfBlock_67 : decode cX2_countOfBlock 67 = .ok (.lreturn, 1) := by decide +kernel
theorem dX2_countOfBlock_68 : decode cX2_countOfBlock 68 = .ok (.aload_n 0, 1) := by decide +kernel
theorem dX2_countOfBlock_69 : decode cX2_countOfBlock 69 = .ok (.getfield 27, 3) := by decide +kernel
theorem dX2_countOfBlock_72 : decode cX2_countOfBlock 72 = .ok (.getfield 155, 3) := by decide +kernel
theorem dX2_countOfBlock_75 : decode cX2_countOfBlock 75 = .ok (.iload_n 1, 1) := by decide +kernel
theorem dX2_countOfBlock_76 : decode cX2_countOfBlock 76 = .ok (.laload, 1) := by decide +kernel
theorem dX2_countOfBlock_77 : decode cX2_countOfBlock 77 = .ok (.lreturn, 1) := by decide +kernel
theorem dX2_countOfBlock_78 : decode cX2_countOfBlock 78 = .ok (.aload_n 0, 1) := by decide +kernel
theorem dX2_countOfBlock_79 : decode cX2_countOfBlock 79 = .ok (.getfield 38, 3) := by decide +kernel
theorem dX2_countOfBlock_82 : decode cX2_countOfBlock 82 = .ok (.getfield 158, 3) := by decide +kernel
theorem dX2_countOfBlock_85 : decode cX2_countOfBlock 85 = .ok (.iload_n 1, 1) := by decide +kernel
theorem dX2_countOfBlock_86 : decode cX2_countOfBlock 86 = .ok (.laload, 1) := by decide +kernel
theorem dX2_countOfBlock_87 : decode cX2_countOfBlock 87 = .ok (.lreturn, 1) := by decide +kernel
def f_X2_countOfBlock (r : Nat) (a1 : Int32) (a2 : Int32) (H : Hp) : Option (Int64 × Hp) := if (gI H (r + 2) 0 8) = 0 then if a2 = 5 then some ((-1), H) else some (0, H) else if a2 = 4 then gd a1 20 (some ((gJ H (r + 2) 18 (Int32.toNatClampNeg a1)), H)) else (if a2 = 5 then gd a1 20 (some ((gJ H (r + 2) 19 (Int32.toNatClampNeg a1)), H)) else (if a2 = 6 then gd a1 20 (some ((gJ H (r + 2) 20 (Int32.toNatClampNeg a1)), H)) else (gd a1 20 (some ((gJ H (r + 2) 36 (Int32.toNatClampNeg a1)), H)))))
set_option maxRecDepth 100000 in
set_option maxHeartbeats 4000000 in
theorem s_X2_countOfBlock {p : Program} {l : Launch} {e : Env} {s : State} {m : MethodId} {args : Array Value} {below : List Frame} {meth : Method} {c : Code} {A : Nat → Prop} {D : va_G} {K4 : kQ} {ad : Nat → Nat → Nat} {nr : Nat} {r : Nat} {a1 : Int32} {a2 : Int32} {H : Hp} {res : Int64 × Hp} (hC : Cx p s m args c A s.heap D K4 3 RX2 cX2_countOfBlock) (hret : meth.sig.returnType = (some .long) ∧ meth.locks = false) (hr_r : r < nr) (h : f_X2_countOfBlock r a1 a2 H = some res) : V p l e ({ frames := 0, cells := 0, slots := 0, locals := 0 }) s m args below meth c A s.heap (QJ below args s A D K4 ad nr res) D K4 ad nr 3 0 [(0, .ref (ad (r + 2) 0)), (1, .int a1), (2, .int a2)] [] H := by
  unfold f_X2_countOfBlock at h
  refine V_aload_n hC 0 dX2_countOfBlock_0 rfl ?_
  refine V_getI (g := (r + 2)) (k := 0) hC 2 8 fl_X2_63 (okR hr_r rfl) rfl rfl dX2_countOfBlock_1 ?_
  refine V_if_ne (tgt := 20) hC dX2_countOfBlock_4 (by decide) (fun c1 => ?_) (fun c1 => ?_)
  · have h := it_neg c1 h
    refine V_iload_n hC 2 dX2_countOfBlock_20 rfl ?_
    by_cases c2 : a2 = 4
    · have h := it_pos c2 h
      refine V_tabE c2 ?_
      refine V_tabIn (tgt := 48) hC dX2_countOfBlock_21 (by decide) (by decide) rfl (by decide) ?_
      refine V_aload_n hC 0 dX2_countOfBlock_48 rfl ?_
      refine V_getR (g := (r + 2)) (k := 0) (g' := (r + 2)) (k' := 2) hC 2 2 fl_X2_27 (okR hr_r rfl) rfl rfl rfl dX2_countOfBlock_49 ?_
      refine V_getR (g := (r + 2)) (k := 2) (g' := (r + 2)) (k' := 18) hC 7 1 fl_X2_149 (okR hr_r rfl) rfl rfl rfl dX2_countOfBlock_52 ?_
      refine V_iload_n hC 1 dX2_countOfBlock_55 rfl ?_
      obtain ⟨hi, h⟩ := gd_some h
      refine V_lald (g := (r + 2)) (k := 18) hC (okR hr_r rfl) rfl hi dX2_countOfBlock_56 ?_
      exact V_lret hC hret dX2_countOfBlock_57 h
    · have h := it_neg c2 h
      by_cases c3 : a2 = 5
      · have h := it_pos c3 h
        refine V_tabE c3 ?_
        refine V_tabIn (tgt := 58) hC dX2_countOfBlock_21 (by decide) (by decide) rfl (by decide) ?_
        refine V_aload_n hC 0 dX2_countOfBlock_58 rfl ?_
        refine V_getR (g := (r + 2)) (k := 0) (g' := (r + 2)) (k' := 2) hC 2 2 fl_X2_27 (okR hr_r rfl) rfl rfl rfl dX2_countOfBlock_59 ?_
        refine V_getR (g := (r + 2)) (k := 2) (g' := (r + 2)) (k' := 19) hC 7 2 fl_X2_152 (okR hr_r rfl) rfl rfl rfl dX2_countOfBlock_62 ?_
        refine V_iload_n hC 1 dX2_countOfBlock_65 rfl ?_
        obtain ⟨hi, h⟩ := gd_some h
        refine V_lald (g := (r + 2)) (k := 19) hC (okR hr_r rfl) rfl hi dX2_countOfBlock_66 ?_
        exact V_lret hC hret dX2_countOfBlock_67 h
      · have h := it_neg c3 h
        by_cases c4 : a2 = 6
        · have h := it_pos c4 h
          refine V_tabE c4 ?_
          refine V_tabIn (tgt := 68) hC dX2_countOfBlock_21 (by decide) (by decide) rfl (by decide) ?_
          refine V_aload_n hC 0 dX2_countOfBlock_68 rfl ?_
          refine V_getR (g := (r + 2)) (k := 0) (g' := (r + 2)) (k' := 2) hC 2 2 fl_X2_27 (okR hr_r rfl) rfl rfl rfl dX2_countOfBlock_69 ?_
          refine V_getR (g := (r + 2)) (k := 2) (g' := (r + 2)) (k' := 20) hC 7 3 fl_X2_155 (okR hr_r rfl) rfl rfl rfl dX2_countOfBlock_72 ?_
          refine V_iload_n hC 1 dX2_countOfBlock_75 rfl ?_
          obtain ⟨hi, h⟩ := gd_some h
          refine V_lald (g := (r + 2)) (k := 20) hC (okR hr_r rfl) rfl hi dX2_countOfBlock_76 ?_
          exact V_lret hC hret dX2_countOfBlock_77 h
        · have h := it_neg c4 h
          have tc2 : Int32.toInt a2 ≠ (4 : Int) := i32ne c2
          have tc3 : Int32.toInt a2 ≠ (5 : Int) := i32ne c3
          have tc4 : Int32.toInt a2 ≠ (6 : Int) := i32ne c4
          refine V_tabOut (tgt := 78) hC dX2_countOfBlock_21 (by omega) (by decide) ?_
          refine V_aload_n hC 0 dX2_countOfBlock_78 rfl ?_
          refine V_getR (g := (r + 2)) (k := 0) (g' := (r + 2)) (k' := 4) hC 2 4 fl_X2_38 (okR hr_r rfl) rfl rfl rfl dX2_countOfBlock_79 ?_
          refine V_getR (g := (r + 2)) (k := 4) (g' := (r + 2)) (k' := 36) hC 0 2 fl_X2_158 (okR hr_r rfl) rfl rfl rfl dX2_countOfBlock_82 ?_
          refine V_iload_n hC 1 dX2_countOfBlock_85 rfl ?_
          obtain ⟨hi, h⟩ := gd_some h
          refine V_lald (g := (r + 2)) (k := 36) hC (okR hr_r rfl) rfl hi dX2_countOfBlock_86 ?_
          exact V_lret hC hret dX2_countOfBlock_87 h
  · have h := it_pos c1 h
    refine V_iload_n hC 2 dX2_countOfBlock_7 rfl ?_
    refine V_iconst (v := 5) hC dX2_countOfBlock_8 (by decide) ?_
    refine V_icmp_ne (tgt := 18) hC dX2_countOfBlock_9 (by decide) (fun c5 => ?_) (fun c5 => ?_)
    · have h := it_neg c5 h
      refine V_lconst (v := 0) hC dX2_countOfBlock_18 (by decide) ?_
      exact V_lret hC hret dX2_countOfBlock_19 h
    · have h := it_pos c5 h
      refine V_ldc2 hC dX2_countOfBlock_12 cl_X2_135 ?_
      refine V_goto (tgt := 19) hC dX2_countOfBlock_15 (by decide) ?_
      exact V_lret hC hret dX2_countOfBlock_19 h
theorem c_X2_countOfBlock (l : Launch) {nr : Nat} {r : Nat} (hr_r : r < nr) {a1 : Int32} {a2 : Int32} {H : Hp} {x : Int64} {H' : Hp} (h : f_X2_countOfBlock r a1 a2 H = some (x, H')) : CJ l nr yX2_countOfBlock cX2_countOfBlock 3 (some .long) 0 0 (fun ad => [.ref (ad (r + 2) 0), .int a1, .int a2]) H x H' := by
  intro D K4 ad sz
  refine Met.ofV (by decide) (Nat.le_of_ble_eq_true rfl) ?_
  intro p e s m args below meth c hC hret hsz
  subst hsz
  exact s_X2_countOfBlock hC hret hr_r h
theorem dX2_rebuiltCount_0 : decode cX2_rebuiltCount 0 = .ok (.iconst 0, 1) := by decide +kernel
theorem dX2_rebuiltCount_1 : decode cX2_rebuiltCount 1 = .ok (.istore_n 3, 1) := by decide +kernel
theorem dX2_rebuiltCount_2 : decode cX2_rebuiltCount 2 = .ok (.iload_n 3, 1) := by decide +kernel
theorem dX2_rebuiltCount_3 : decode cX2_rebuiltCount 3 = .ok (.aload_n 0, 1) := by decide +kernel
theorem dX2_rebuiltCount_4 : decode cX2_rebuiltCount 4 = .ok (.getfield 23, 3) := by decide +kernel
theorem dX2_rebuiltCount_7 : decode cX2_rebuiltCount 7 = .ok (.getfield 100, 3) := by decide +kernel
theorem dX2_rebuiltCount_10 : decode cX2_rebuiltCount 10 = .ok (.if_icmp .ge 35, 3) := by decide +kernel
theorem dX2_rebuiltCount_13 : decode cX2_rebuiltCount 13 = .ok (.aload_n 0, 1) := by decide +kernel
theorem dX2_rebuiltCount_14 : decode cX2_rebuiltCount 14 = .ok (.getfield 15, 3) := by decide +kernel
theorem dX2_rebuiltCount_17 : decode cX2_rebuiltCount 17 = .ok (.iload_n 3, 1) := by decide +kernel
theorem dX2_rebuiltCount_18 : decode cX2_rebuiltCount 18 = .ok (.aload_n 0, 1) := by decide +kernel
theorem dX2_rebuiltCount_19 : decode cX2_rebuiltCount 19 = .ok (.getfield 38, 3) := by decide +kernel
theorem dX2_rebuiltCount_22 : decode cX2_rebuiltCount 22 = .ok (.getfield 158, 3) := by decide +kernel
theorem dX2_rebuiltCount_25 : decode cX2_rebuiltCount 25 = .ok (.iload_n 3, 1) := by decide +kernel
theorem dX2_rebuiltCount_26 : decode cX2_rebuiltCount 26 = .ok (.laload, 1) := by decide +kernel
theorem dX2_rebuiltCount_27 : decode cX2_rebuiltCount 27 = .ok (.aload_n 2, 1) := by decide +kernel
theorem dX2_rebuiltCount_28 : decode cX2_rebuiltCount 28 = .ok (.aload_n 0, 1) := by decide +kernel
theorem dX2_rebuiltCount_29 : decode cX2_rebuiltCount 29 = .ok (.getfield 19, 3) := by decide +kernel
theorem dX2_rebuiltCount_32 : decode cX2_rebuiltCount 32 = .ok (.iload_n 3, 1) := by decide +kernel
theorem dX2_rebuiltCount_33 : decode cX2_rebuiltCount 33 = .ok (.invokevirtual 161, 3) := by decide +kernel
theorem dX2_rebuiltCount_36 : decode cX2_rebuiltCount 36 = .ok (.i2l, 1) := by decide +kernel
theorem dX2_rebuiltCount_37 : decode cX2_rebuiltCount 37 = .ok (.ladd, 1) := by decide +kernel
theorem dX2_rebuiltCount_38 : decode cX2_rebuiltCount 38 = .ok (.lastore, 1) := by decide +kernel
theorem dX2_rebuiltCount_39 : decode cX2_rebuiltCount 39 = .ok (.iinc 3 1, 3) := by decide +kernel
theorem dX2_rebuiltCount_42 : decode cX2_rebuiltCount 42 = .ok (.goto (-40), 3) := by decide +kernel
theorem dX2_rebuiltCount_45 : decode cX2_rebuiltCount 45 = .ok (.aload_n 0, 1) := by decide +kernel
theorem dX2_rebuiltCount_46 : decode cX2_rebuiltCount 46 = .ok (.getfield 31, 3) := by decide +kernel
theorem dX2_rebuiltCount_49 : decode cX2_rebuiltCount 49 = .ok (.aload_n 0, 1) := by decide +kernel
theorem dX2_rebuiltCount_50 : decode cX2_rebuiltCount 50 = .ok (.getfield 38, 3) := by decide +kernel
theorem dX2_rebuiltCount_53 : decode cX2_rebuiltCount 53 = .ok (.getfield 140, 3) := by decide +kernel
theorem dX2_rebuiltCount_56 : decode cX2_rebuiltCount 56 = .ok (.aload_n 0, 1) := by decide +kernel
theorem dX2_rebuiltCount_57 : decode cX2_rebuiltCount 57 = .ok (.getfield 15, 3) := by decide +kernel
theorem dX2_rebuiltCount_60 : decode cX2_rebuiltCount 60 = .ok (.invokevirtual 167, 3) := by decide +kernel
theorem dX2_rebuiltCount_63 : decode cX2_rebuiltCount 63 = .ok (.aload_n 0, 1) := by decide +kernel
theorem dX2_rebuiltCount_64 : decode cX2_rebuiltCount 64 = .ok (.getfield 31, 3) := by decide +kernel
theorem dX2_rebuiltCount_67 : decode cX2_rebuiltCount 67 = .ok (.getfield 171, 3) := by decide +kernel
theorem dX2_rebuiltCount_70 : decode cX2_rebuiltCount 70 = .ok (.iload_n 1, 1) := by decide +kernel
theorem dX2_rebuiltCount_71 : decode cX2_rebuiltCount 71 = .ok (.laload, 1) := by decide +kernel
theorem dX2_rebuiltCount_72 : decode cX2_rebuiltCount 72 = .ok (.lreturn, 1) := by decide +kernel
def L_X2_rebuiltCount_2 (nr : Nat) (r : Nat) (b1 : Int32) (k : Hp → Option (Int64 × Hp)) : Nat → Int32 → Hp → Option (Int64 × Hp)
  | 0, _, _ => none
  | n + 1, x3, H => if (gI H (r + 2) 1 10) ≤ x3 then k H else gd x3 20 (bnd (f_X6_openAt nr (gI H (r + 2) 0 0) x3 H) (fun w3 H2 => gd x3 20 (hl (sJ H2 (r + 2) 7 (Int32.toNatClampNeg x3) ((gJ H (r + 2) 36 (Int32.toNatClampNeg x3)) + (Int32.toInt64 w3))) (fun (H4 : Hp) => vl (x3 + (1 : Int32)) (fun (v5 : Int32) => L_X2_rebuiltCount_2 nr r b1 k n v5 H4)))))
set_option maxRecDepth 100000 in
set_option maxHeartbeats 4000000 in
theorem sL_X2_rebuiltCount_2 {p : Program} {l : Launch} {e : Env} {s : State} {m : MethodId} {args : Array Value} {below : List Frame} {meth : Method} {c : Code} {A : Nat → Prop} {D : va_G} {K4 : kQ} {ad : Nat → Nat → Nat} {nr : Nat} {r : Nat} {b1 : Int32} {k : Hp → Option (Int64 × Hp)} {res : Int64 × Hp} (hC : Cx p s m args c A s.heap D K4 4 RX2 cX2_rebuiltCount) (hret : meth.sig.returnType = (some .long) ∧ meth.locks = false) (hr_r : r < nr) (hk : ∀ (H : Hp), k H = some res → V p l e ({ frames := 2, cells := 0, slots := 0, locals := 48 }) s m args below meth c A s.heap (QJ below args s A D K4 ad nr res) D K4 ad nr 4 45 [(0, .ref (ad (r + 2) 0)), (1, .int b1)] [] H) : ∀ (n : Nat) (x3 : Int32) (H : Hp), L_X2_rebuiltCount_2 nr r b1 k n x3 H = some res → V p l e ({ frames := 2, cells := 0, slots := 0, locals := 48 }) s m args below meth c A s.heap (QJ below args s A D K4 ad nr res) D K4 ad nr 4 2 [(0, .ref (ad (r + 2) 0)), (1, .int b1), (2, .ref (ad 1 2)), (3, .int x3)] [] H := by
  intro n
  induction n with
  | zero => intro x3 H h; exact nomatch (show (none : Option (Int64 × Hp)) = some res from h)
  | succ n ih =>
    intro x3 H h
    rw [L_X2_rebuiltCount_2] at h
    refine V_iload_n hC 3 dX2_rebuiltCount_2 rfl ?_
    refine V_aload_n hC 0 dX2_rebuiltCount_3 rfl ?_
    refine V_getR (g := (r + 2)) (k := 0) (g' := (r + 2)) (k' := 1) hC 2 1 fl_X2_23 (okR hr_r rfl) rfl rfl rfl dX2_rebuiltCount_4 ?_
    refine V_getI (g := (r + 2)) (k := 1) hC 3 10 fl_X2_100 (okR hr_r rfl) rfl rfl dX2_rebuiltCount_7 ?_
    refine V_icmp_ge (tgt := 45) hC dX2_rebuiltCount_10 (by decide) (fun c1 => ?_) (fun c1 => ?_)
    · have h := it_pos c1 h
      refine V_lv (lv' := [(0, .ref (ad (r + 2) 0)), (1, .int b1)]) [0, 1] rfl ?_
      exact hk H h
    · have h := it_neg c1 h
      refine V_aload_n hC 0 dX2_rebuiltCount_13 rfl ?_
      refine V_getR (g := (r + 2)) (k := 0) (g' := (r + 2)) (k' := 7) hC 2 7 fl_X2_15 (okR hr_r rfl) rfl rfl rfl dX2_rebuiltCount_14 ?_
      refine V_iload_n hC 3 dX2_rebuiltCount_17 rfl ?_
      refine V_aload_n hC 0 dX2_rebuiltCount_18 rfl ?_
      refine V_getR (g := (r + 2)) (k := 0) (g' := (r + 2)) (k' := 4) hC 2 4 fl_X2_38 (okR hr_r rfl) rfl rfl rfl dX2_rebuiltCount_19 ?_
      refine V_getR (g := (r + 2)) (k := 4) (g' := (r + 2)) (k' := 36) hC 0 2 fl_X2_158 (okR hr_r rfl) rfl rfl rfl dX2_rebuiltCount_22 ?_
      refine V_iload_n hC 3 dX2_rebuiltCount_25 rfl ?_
      obtain ⟨hi, h⟩ := gd_some h
      refine V_lald (g := (r + 2)) (k := 36) hC (okR hr_r rfl) rfl hi dX2_rebuiltCount_26 ?_
      refine V_aload_n hC 2 dX2_rebuiltCount_27 rfl ?_
      refine V_aload_n hC 0 dX2_rebuiltCount_28 rfl ?_
      refine V_getI (g := (r + 2)) (k := 0) hC 2 0 fl_X2_19 (okR hr_r rfl) rfl rfl dX2_rebuiltCount_29 ?_
      refine V_iload_n hC 3 dX2_rebuiltCount_32 rfl ?_
      obtain ⟨w3, H2, hc, h⟩ := bnd_some h
      refine V_calli (g := 1) (k := 2) (As := [.int (gI H (r + 2) 0 0), .int x3]) (st := [.long (gJ H (r + 2) 36 (Int32.toNatClampNeg x3)), .int x3, .ref (ad (r + 2) 7)]) hC (c_X6_openAt l hc) rfl ml_X2_161 ⟨Nat.le_of_ble_eq_true rfl, Nat.le_of_ble_eq_true rfl⟩ rfl rfl rfl (Nat.le_of_ble_eq_true rfl) dX2_rebuiltCount_33 ?_
      refine V_i2l hC dX2_rebuiltCount_36 ?_
      refine V_ladd hC dX2_rebuiltCount_37 ?_
      obtain ⟨hi, h⟩ := gd_some h
      refine V_last (g := (r + 2)) (k := 7) hC (okR hr_r rfl) rfl hi dX2_rebuiltCount_38 ?_
      refine V_hl h (fun H4 h => ?_)
      refine V_vi h (fun v5 hvv5 h => ?_)
      refine V_iinc (v := v5) (lv' := [(3, .int v5), (0, .ref (ad (r + 2) 0)), (1, .int b1), (2, .ref (ad 1 2))]) hC 3 dX2_rebuiltCount_39 rfl hvv5.symm (Nat.le_of_ble_eq_true rfl) rfl ?_
      refine V_goto (tgt := 2) hC dX2_rebuiltCount_42 (by decide) ?_
      refine V_lv (lv' := [(0, .ref (ad (r + 2) 0)), (1, .int b1), (2, .ref (ad 1 2)), (3, .int v5)]) [1, 2, 3, 0] rfl ?_
      exact ih v5 H4 h
def f_X2_rebuiltCount (nr : Nat) (r : Nat) (a1 : Int32) (H : Hp) : Option (Int64 × Hp) := L_X2_rebuiltCount_2 nr r a1 (fun (H6 : Hp) => bnd (f_X5_rebuild r H6) (fun w8 H7 => gd a1 61 (some ((gJ H7 (r + 2) 33 (Int32.toNatClampNeg a1)), H7)))) FU 0 H
set_option maxRecDepth 100000 in
set_option maxHeartbeats 4000000 in
theorem s_X2_rebuiltCount {p : Program} {l : Launch} {e : Env} {s : State} {m : MethodId} {args : Array Value} {below : List Frame} {meth : Method} {c : Code} {A : Nat → Prop} {D : va_G} {K4 : kQ} {ad : Nat → Nat → Nat} {nr : Nat} {r : Nat} {a1 : Int32} {H : Hp} {res : Int64 × Hp} (hC : Cx p s m args c A s.heap D K4 4 RX2 cX2_rebuiltCount) (hret : meth.sig.returnType = (some .long) ∧ meth.locks = false) (hr_r : r < nr) (h : f_X2_rebuiltCount nr r a1 H = some res) : V p l e ({ frames := 2, cells := 0, slots := 0, locals := 48 }) s m args below meth c A s.heap (QJ below args s A D K4 ad nr res) D K4 ad nr 4 0 [(0, .ref (ad (r + 2) 0)), (1, .int a1), (2, .ref (ad 1 2))] [] H := by
  unfold f_X2_rebuiltCount at h
  refine V_iconst (v := 0) hC dX2_rebuiltCount_0 (by decide) ?_
  refine V_istore_n (lv' := [(3, .int 0), (0, .ref (ad (r + 2) 0)), (1, .int a1), (2, .ref (ad 1 2))]) hC dX2_rebuiltCount_1 (Nat.le_of_ble_eq_true rfl) rfl ?_
  refine V_lv (lv' := [(0, .ref (ad (r + 2) 0)), (1, .int a1), (2, .ref (ad 1 2)), (3, .int 0)]) [1, 2, 3, 0] rfl ?_
  refine sL_X2_rebuiltCount_2 hC hret hr_r (fun H6 h => ?_) _ 0 H h
  refine V_aload_n hC 0 dX2_rebuiltCount_45 rfl ?_
  refine V_getR (g := (r + 2)) (k := 0) (g' := (r + 2)) (k' := 3) hC 2 3 fl_X2_31 (okR hr_r rfl) rfl rfl rfl dX2_rebuiltCount_46 ?_
  refine V_aload_n hC 0 dX2_rebuiltCount_49 rfl ?_
  refine V_getR (g := (r + 2)) (k := 0) (g' := (r + 2)) (k' := 4) hC 2 4 fl_X2_38 (okR hr_r rfl) rfl rfl rfl dX2_rebuiltCount_50 ?_
  refine V_getR (g := (r + 2)) (k := 4) (g' := (r + 2)) (k' := 35) hC 0 1 fl_X2_140 (okR hr_r rfl) rfl rfl rfl dX2_rebuiltCount_53 ?_
  refine V_aload_n hC 0 dX2_rebuiltCount_56 rfl ?_
  refine V_getR (g := (r + 2)) (k := 0) (g' := (r + 2)) (k' := 7) hC 2 7 fl_X2_15 (okR hr_r rfl) rfl rfl rfl dX2_rebuiltCount_57 ?_
  obtain ⟨w8, H7, hc, h⟩ := bnd_some h
  refine V_callu (g := (r + 2)) (k := 3) (As := [.ref (ad (r + 2) 35), .ref (ad (r + 2) 7)]) (st := []) hC (c_X5_rebuild l (hr_r := hr_r) hc) rfl ml_X2_167 ⟨Nat.le_of_ble_eq_true rfl, Nat.le_of_ble_eq_true rfl⟩ (okR hr_r rfl) rfl rfl (Nat.le_of_ble_eq_true rfl) dX2_rebuiltCount_60 ?_
  refine V_aload_n hC 0 dX2_rebuiltCount_63 rfl ?_
  refine V_getR (g := (r + 2)) (k := 0) (g' := (r + 2)) (k' := 3) hC 2 3 fl_X2_31 (okR hr_r rfl) rfl rfl rfl dX2_rebuiltCount_64 ?_
  refine V_getR (g := (r + 2)) (k := 3) (g' := (r + 2)) (k' := 33) hC 5 8 fl_X2_171 (okR hr_r rfl) rfl rfl rfl dX2_rebuiltCount_67 ?_
  refine V_iload_n hC 1 dX2_rebuiltCount_70 rfl ?_
  obtain ⟨hi, h⟩ := gd_some h
  refine V_lald (g := (r + 2)) (k := 33) hC (okR hr_r rfl) rfl hi dX2_rebuiltCount_71 ?_
  exact V_lret hC hret dX2_rebuiltCount_72 h
theorem c_X2_rebuiltCount (l : Launch) {nr : Nat} {r : Nat} (hr_r : r < nr) {a1 : Int32} {H : Hp} {x : Int64} {H' : Hp} (h : f_X2_rebuiltCount nr r a1 H = some (x, H')) : CJ l nr yX2_rebuiltCount cX2_rebuiltCount 4 (some .long) 2 48 (fun ad => [.ref (ad (r + 2) 0), .int a1, .ref (ad 1 2)]) H x H' := by
  intro D K4 ad sz
  refine Met.ofV (by decide) (Nat.le_of_ble_eq_true rfl) ?_
  intro p e s m args below meth c hC hret hsz
  subst hsz
  exact s_X2_rebuiltCount hC hret hr_r h
theorem dX2_toldCount_0 : decode cX2_toldCount 0 = .ok (.lconst 0, 1) := by decide +kernel
theorem dX2_toldCount_1 : decode cX2_toldCount 1 = .ok (.lstore_n 2, 1) := by decide +kernel
theorem dX2_toldCount_2 : decode cX2_toldCount 2 = .ok (.iconst 0, 1) := by decide +kernel
theorem dX2_toldCount_3 : decode cX2_toldCount 3 = .ok (.istore 4, 2) := by decide +kernel
theorem dX2_toldCount_5 : decode cX2_toldCount 5 = .ok (.iload 4, 2) := by decide +kernel
theorem dX2_toldCount_7 : decode cX2_toldCount 7 = .ok (.aload_n 0, 1) := by decide +kernel
theorem dX2_toldCount_8 : decode cX2_toldCount 8 = .ok (.getfield 45, 3) := by decide +kernel
theorem dX2_toldCount_11 : decode cX2_toldCount 11 = .ok (.getfield 122, 3) := by decide +kernel
theorem dX2_toldCount_14 : decode cX2_toldCount 14 = .ok (.if_icmp .ge 53, 3) := by decide +kernel
theorem dX2_toldCount_17 : decode cX2_toldCount 17 = .ok (.aload_n 0, 1) := by decide +kernel
theorem dX2_toldCount_18 : decode cX2_toldCount 18 = .ok (.getfield 27, 3) := by decide +kernel
theorem dX2_toldCount_21 : decode cX2_toldCount 21 = .ok (.aload_n 0, 1) := by decide +kernel
theorem dX2_toldCount_22 : decode cX2_toldCount 22 = .ok (.getfield 45, 3) := by decide +kernel
theorem dX2_toldCount_25 : decode cX2_toldCount 25 = .ok (.getfield 174, 3) := by decide +kernel
theorem dX2_toldCount_28 : decode cX2_toldCount 28 = .ok (.iload 4, 2) := by decide +kernel
theorem dX2_toldCount_30 : decode cX2_toldCount 30 = .ok (.laload, 1) := by decide +kernel
theorem dX2_toldCount_31 : decode cX2_toldCount 31 = .ok (.invokevirtual 177, 3) := by decide +kernel
theorem dX2_toldCount_34 : decode cX2_toldCount 34 = .ok (.ifCond .eq 27, 3) := by decide +kernel
theorem dX2_toldCount_37 : decode cX2_toldCount 37 = .ok (.aload_n 0, 1) := by decide +kernel
theorem dX2_toldCount_38 : decode cX2_toldCount 38 = .ok (.getfield 27, 3) := by decide +kernel
theorem dX2_toldCount_41 : decode cX2_toldCount 41 = .ok (.iload_n 1, 1) := by decide +kernel
theorem dX2_toldCount_42 : decode cX2_toldCount 42 = .ok (.invokevirtual 181, 3) := by decide +kernel
theorem dX2_toldCount_45 : decode cX2_toldCount 45 = .ok (.ifCond .eq 16, 3) := by decide +kernel
theorem dX2_toldCount_48 : decode cX2_toldCount 48 = .ok (.lload_n 2, 1) := by decide +kernel
theorem dX2_toldCount_49 : decode cX2_toldCount 49 = .ok (.aload_n 0, 1) := by decide +kernel
theorem dX2_toldCount_50 : decode cX2_toldCount 50 = .ok (.getfield 45, 3) := by decide +kernel
theorem dX2_toldCount_53 : decode cX2_toldCount 53 = .ok (.getfield 184, 3) := by decide +kernel
theorem dX2_toldCount_56 : decode cX2_toldCount 56 = .ok (.iload 4, 2) := by decide +kernel
theorem dX2_toldCount_58 : decode cX2_toldCount 58 = .ok (.laload, 1) := by decide +kernel
theorem dX2_toldCount_59 : decode cX2_toldCount 59 = .ok (.ladd, 1) := by decide +kernel
theorem dX2_toldCount_60 : decode cX2_toldCount 60 = .ok (.lstore_n 2, 1) := by decide +kernel
theorem dX2_toldCount_61 : decode cX2_toldCount 61 = .ok (.iinc 4 1, 3) := by decide +kernel
theorem dX2_toldCount_64 : decode cX2_toldCount 64 = .ok (.goto (-59), 3) := by decide +kernel
theorem dX2_toldCount_67 : decode cX2_toldCount 67 = .ok (.lload_n 2, 1) := by decide +kernel
theorem dX2_toldCount_68 : decode cX2_toldCount 68 = .ok (.lreturn, 1) := by decide +kernel
def L_X2_toldCount_5 (r : Nat) (b1 : Int32) (k : Int64 → Hp → Option (Int64 × Hp)) : Nat → Int64 → Int32 → Hp → Option (Int64 × Hp)
  | 0, _, _, _ => none
  | n + 1, x2, x4, H => if (gI H (r + 2) 5 2) ≤ x4 then k x2 H else gd x4 16 (bnd (f_X7_unfold r (gJ H (r + 2) 37 (Int32.toNatClampNeg x4)) H) (fun w3 H2 => if w3 = 0 then vl (x4 + (1 : Int32)) (fun (v5 : Int32) => L_X2_toldCount_5 r b1 k n x2 v5 H2) else bnd (f_X7_unfoldedHas r b1 H2) (fun w7 H6 => if w7 = 0 then vl (x4 + (1 : Int32)) (fun (v9 : Int32) => L_X2_toldCount_5 r b1 k n x2 v9 H6) else gd x4 16 (vl ((x2 + (gJ H6 (r + 2) 38 (Int32.toNatClampNeg x4)))) (fun (v10 : Int64) => vl (x4 + (1 : Int32)) (fun (v11 : Int32) => L_X2_toldCount_5 r b1 k n v10 v11 H6))))))
set_option maxRecDepth 100000 in
set_option maxHeartbeats 4000000 in
theorem sL_X2_toldCount_5 {p : Program} {l : Launch} {e : Env} {s : State} {m : MethodId} {args : Array Value} {below : List Frame} {meth : Method} {c : Code} {A : Nat → Prop} {D : va_G} {K4 : kQ} {ad : Nat → Nat → Nat} {nr : Nat} {r : Nat} {b1 : Int32} {k : Int64 → Hp → Option (Int64 × Hp)} {res : Int64 × Hp} (hC : Cx p s m args c A s.heap D K4 5 RX2 cX2_toldCount) (hret : meth.sig.returnType = (some .long) ∧ meth.locks = false) (hr_r : r < nr) (hk : ∀ (z2 : Int64) (H : Hp), k z2 H = some res → V p l e ({ frames := 2, cells := 0, slots := 0, locals := 52 }) s m args below meth c A s.heap (QJ below args s A D K4 ad nr res) D K4 ad nr 5 67 [(2, .long z2)] [] H) : ∀ (n : Nat) (x2 : Int64) (x4 : Int32) (H : Hp), L_X2_toldCount_5 r b1 k n x2 x4 H = some res → V p l e ({ frames := 2, cells := 0, slots := 0, locals := 52 }) s m args below meth c A s.heap (QJ below args s A D K4 ad nr res) D K4 ad nr 5 5 [(0, .ref (ad (r + 2) 0)), (1, .int b1), (2, .long x2), (4, .int x4)] [] H := by
  intro n
  induction n with
  | zero => intro x2 x4 H h; exact nomatch (show (none : Option (Int64 × Hp)) = some res from h)
  | succ n ih =>
    intro x2 x4 H h
    rw [L_X2_toldCount_5] at h
    refine V_iload hC 3 dX2_toldCount_5 rfl ?_
    refine V_aload_n hC 0 dX2_toldCount_7 rfl ?_
    refine V_getR (g := (r + 2)) (k := 0) (g' := (r + 2)) (k' := 5) hC 2 5 fl_X2_45 (okR hr_r rfl) rfl rfl rfl dX2_toldCount_8 ?_
    refine V_getI (g := (r + 2)) (k := 5) hC 4 2 fl_X2_122 (okR hr_r rfl) rfl rfl dX2_toldCount_11 ?_
    refine V_icmp_ge (tgt := 67) hC dX2_toldCount_14 (by decide) (fun c1 => ?_) (fun c1 => ?_)
    · have h := it_pos c1 h
      refine V_lv (lv' := [(2, .long x2)]) [2] rfl ?_
      exact hk x2 H h
    · have h := it_neg c1 h
      refine V_aload_n hC 0 dX2_toldCount_17 rfl ?_
      refine V_getR (g := (r + 2)) (k := 0) (g' := (r + 2)) (k' := 2) hC 2 2 fl_X2_27 (okR hr_r rfl) rfl rfl rfl dX2_toldCount_18 ?_
      refine V_aload_n hC 0 dX2_toldCount_21 rfl ?_
      refine V_getR (g := (r + 2)) (k := 0) (g' := (r + 2)) (k' := 5) hC 2 5 fl_X2_45 (okR hr_r rfl) rfl rfl rfl dX2_toldCount_22 ?_
      refine V_getR (g := (r + 2)) (k := 5) (g' := (r + 2)) (k' := 37) hC 4 0 fl_X2_174 (okR hr_r rfl) rfl rfl rfl dX2_toldCount_25 ?_
      refine V_iload hC 3 dX2_toldCount_28 rfl ?_
      obtain ⟨hi, h⟩ := gd_some h
      refine V_lald (g := (r + 2)) (k := 37) hC (okR hr_r rfl) rfl hi dX2_toldCount_30 ?_
      obtain ⟨w3, H2, hc, h⟩ := bnd_some h
      refine V_calli (g := (r + 2)) (k := 2) (As := [.long (gJ H (r + 2) 37 (Int32.toNatClampNeg x4))]) (st := []) hC (c_X7_unfold l (hr_r := hr_r) hc) rfl ml_X2_177 ⟨Nat.le_of_ble_eq_true rfl, Nat.le_of_ble_eq_true rfl⟩ (okR hr_r rfl) rfl rfl (Nat.le_of_ble_eq_true rfl) dX2_toldCount_31 ?_
      refine V_if_eq (tgt := 61) hC dX2_toldCount_34 (by decide) (fun c4 => ?_) (fun c4 => ?_)
      · have h := it_pos c4 h
        refine V_vi h (fun v5 hvv5 h => ?_)
        refine V_iinc (v := v5) (lv' := [(4, .int v5), (0, .ref (ad (r + 2) 0)), (1, .int b1), (2, .long x2)]) hC 3 dX2_toldCount_61 rfl hvv5.symm (Nat.le_of_ble_eq_true rfl) rfl ?_
        refine V_goto (tgt := 5) hC dX2_toldCount_64 (by decide) ?_
        refine V_lv (lv' := [(0, .ref (ad (r + 2) 0)), (1, .int b1), (2, .long x2), (4, .int v5)]) [1, 2, 3, 0] rfl ?_
        exact ih x2 v5 H2 h
      · have h := it_neg c4 h
        refine V_aload_n hC 0 dX2_toldCount_37 rfl ?_
        refine V_getR (g := (r + 2)) (k := 0) (g' := (r + 2)) (k' := 2) hC 2 2 fl_X2_27 (okR hr_r rfl) rfl rfl rfl dX2_toldCount_38 ?_
        refine V_iload_n hC 1 dX2_toldCount_41 rfl ?_
        obtain ⟨w7, H6, hc, h⟩ := bnd_some h
        refine V_calli (g := (r + 2)) (k := 2) (As := [.int b1]) (st := []) hC (c_X7_unfoldedHas l (hr_r := hr_r) hc) rfl ml_X2_181 ⟨Nat.le_of_ble_eq_true rfl, Nat.le_of_ble_eq_true rfl⟩ (okR hr_r rfl) rfl rfl (Nat.le_of_ble_eq_true rfl) dX2_toldCount_42 ?_
        refine V_if_eq (tgt := 61) hC dX2_toldCount_45 (by decide) (fun c8 => ?_) (fun c8 => ?_)
        · have h := it_pos c8 h
          refine V_vi h (fun v9 hvv9 h => ?_)
          refine V_iinc (v := v9) (lv' := [(4, .int v9), (0, .ref (ad (r + 2) 0)), (1, .int b1), (2, .long x2)]) hC 3 dX2_toldCount_61 rfl hvv9.symm (Nat.le_of_ble_eq_true rfl) rfl ?_
          refine V_goto (tgt := 5) hC dX2_toldCount_64 (by decide) ?_
          refine V_lv (lv' := [(0, .ref (ad (r + 2) 0)), (1, .int b1), (2, .long x2), (4, .int v9)]) [1, 2, 3, 0] rfl ?_
          exact ih x2 v9 H6 h
        · have h := it_neg c8 h
          refine V_lload_n hC 2 dX2_toldCount_48 rfl ?_
          refine V_aload_n hC 0 dX2_toldCount_49 rfl ?_
          refine V_getR (g := (r + 2)) (k := 0) (g' := (r + 2)) (k' := 5) hC 2 5 fl_X2_45 (okR hr_r rfl) rfl rfl rfl dX2_toldCount_50 ?_
          refine V_getR (g := (r + 2)) (k := 5) (g' := (r + 2)) (k' := 38) hC 4 1 fl_X2_184 (okR hr_r rfl) rfl rfl rfl dX2_toldCount_53 ?_
          refine V_iload hC 3 dX2_toldCount_56 rfl ?_
          obtain ⟨hi, h⟩ := gd_some h
          refine V_lald (g := (r + 2)) (k := 38) hC (okR hr_r rfl) rfl hi dX2_toldCount_58 ?_
          refine V_ladd hC dX2_toldCount_59 ?_
          refine V_vlJ h (fun v10 h => ?_)
          refine V_lstore_n (lv' := [(2, .long v10), (0, .ref (ad (r + 2) 0)), (1, .int b1), (4, .int x4)]) hC dX2_toldCount_60 (Nat.le_of_ble_eq_true rfl) rfl ?_
          refine V_vi h (fun v11 hvv11 h => ?_)
          refine V_iinc (v := v11) (lv' := [(4, .int v11), (2, .long v10), (0, .ref (ad (r + 2) 0)), (1, .int b1)]) hC 3 dX2_toldCount_61 rfl hvv11.symm (Nat.le_of_ble_eq_true rfl) rfl ?_
          refine V_goto (tgt := 5) hC dX2_toldCount_64 (by decide) ?_
          refine V_lv (lv' := [(0, .ref (ad (r + 2) 0)), (1, .int b1), (2, .long v10), (4, .int v11)]) [2, 3, 1, 0] rfl ?_
          exact ih v10 v11 H6 h
def f_X2_toldCount (r : Nat) (a1 : Int32) (H : Hp) : Option (Int64 × Hp) := L_X2_toldCount_5 r a1 (fun (z12 : Int64) (H13 : Hp) => some (z12, H13)) FU 0 0 H
set_option maxRecDepth 100000 in
set_option maxHeartbeats 4000000 in
theorem s_X2_toldCount {p : Program} {l : Launch} {e : Env} {s : State} {m : MethodId} {args : Array Value} {below : List Frame} {meth : Method} {c : Code} {A : Nat → Prop} {D : va_G} {K4 : kQ} {ad : Nat → Nat → Nat} {nr : Nat} {r : Nat} {a1 : Int32} {H : Hp} {res : Int64 × Hp} (hC : Cx p s m args c A s.heap D K4 5 RX2 cX2_toldCount) (hret : meth.sig.returnType = (some .long) ∧ meth.locks = false) (hr_r : r < nr) (h : f_X2_toldCount r a1 H = some res) : V p l e ({ frames := 2, cells := 0, slots := 0, locals := 52 }) s m args below meth c A s.heap (QJ below args s A D K4 ad nr res) D K4 ad nr 5 0 [(0, .ref (ad (r + 2) 0)), (1, .int a1)] [] H := by
  unfold f_X2_toldCount at h
  refine V_lconst (v := 0) hC dX2_toldCount_0 (by decide) ?_
  refine V_lstore_n (lv' := [(2, .long 0), (0, .ref (ad (r + 2) 0)), (1, .int a1)]) hC dX2_toldCount_1 (Nat.le_of_ble_eq_true rfl) rfl ?_
  refine V_iconst (v := 0) hC dX2_toldCount_2 (by decide) ?_
  refine V_istore (lv' := [(4, .int 0), (2, .long 0), (0, .ref (ad (r + 2) 0)), (1, .int a1)]) hC dX2_toldCount_3 (Nat.le_of_ble_eq_true rfl) rfl ?_
  refine V_lv (lv' := [(0, .ref (ad (r + 2) 0)), (1, .int a1), (2, .long 0), (4, .int 0)]) [2, 3, 1, 0] rfl ?_
  refine sL_X2_toldCount_5 hC hret hr_r (fun z12 H13 h => ?_) _ 0 0 H h
  refine V_lload_n hC 0 dX2_toldCount_67 rfl ?_
  exact V_lret hC hret dX2_toldCount_68 h
theorem c_X2_toldCount (l : Launch) {nr : Nat} {r : Nat} (hr_r : r < nr) {a1 : Int32} {H : Hp} {x : Int64} {H' : Hp} (h : f_X2_toldCount r a1 H = some (x, H')) : CJ l nr yX2_toldCount cX2_toldCount 5 (some .long) 2 52 (fun ad => [.ref (ad (r + 2) 0), .int a1]) H x H' := by
  intro D K4 ad sz
  refine Met.ofV (by decide) (Nat.le_of_ble_eq_true rfl) ?_
  intro p e s m args below meth c hC hret hsz
  subst hsz
  exact s_X2_toldCount hC hret hr_r h
theorem dX2_countEntry_0 : decode cX2_countEntry 0 = .ok (.aload_n 0, 1) := by decide +kernel
theorem dX2_countEntry_1 : decode cX2_countEntry 1 = .ok (.getfield 38, 3) := by decide +kernel
theorem dX2_countEntry_4 : decode cX2_countEntry 4 = .ok (.dup, 1) := by decide +kernel
theorem dX2_countEntry_5 : decode cX2_countEntry 5 = .ok (.getfield 116, 3) := by decide +kernel
theorem dX2_countEntry_8 : decode cX2_countEntry 8 = .ok (.lconst 1, 1) := by decide +kernel
theorem dX2_countEntry_9 : decode cX2_countEntry 9 = .ok (.ladd, 1) := by decide +kernel
theorem dX2_countEntry_10 : decode cX2_countEntry 10 = .ok (.putfield 116, 3) := by decide +kernel
theorem dX2_countEntry_13 : decode cX2_countEntry 13 = .ok (.return_, 1) := by decide +kernel
def f_X2_countEntry (r : Nat) (H : Hp) : Option (Unit × Hp) := hl (sJ H (r + 2) 4 3 ((gJ H (r + 2) 4 3) + 1)) (fun (H1 : Hp) => some ((), H1))
set_option maxRecDepth 100000 in
set_option maxHeartbeats 4000000 in
theorem s_X2_countEntry {p : Program} {l : Launch} {e : Env} {s : State} {m : MethodId} {args : Array Value} {below : List Frame} {meth : Method} {c : Code} {A : Nat → Prop} {D : va_G} {K4 : kQ} {ad : Nat → Nat → Nat} {nr : Nat} {r : Nat} {H : Hp} {res : Unit × Hp} (hC : Cx p s m args c A s.heap D K4 1 RX2 cX2_countEntry) (hret : meth.sig.returnType = none ∧ meth.locks = false) (hr_r : r < nr) (h : f_X2_countEntry r H = some res) : V p l e ({ frames := 0, cells := 0, slots := 0, locals := 0 }) s m args below meth c A s.heap (QU below args s A D K4 ad nr res) D K4 ad nr 1 0 [(0, .ref (ad (r + 2) 0))] [] H := by
  unfold f_X2_countEntry at h
  refine V_aload_n hC 0 dX2_countEntry_0 rfl ?_
  refine V_getR (g := (r + 2)) (k := 0) (g' := (r + 2)) (k' := 4) hC 2 4 fl_X2_38 (okR hr_r rfl) rfl rfl rfl dX2_countEntry_1 ?_
  refine V_dup hC dX2_countEntry_4 rfl ?_
  refine V_getJ (g := (r + 2)) (k := 4) hC 0 3 fl_X2_116 (okR hr_r rfl) rfl rfl dX2_countEntry_5 ?_
  refine V_lconst (v := 1) hC dX2_countEntry_8 (by decide) ?_
  refine V_ladd hC dX2_countEntry_9 ?_
  refine V_putJ (g := (r + 2)) (k := 4) hC 0 3 .long fw_X2_116 (okR hr_r rfl) rfl rfl rfl rfl dX2_countEntry_10 ?_
  refine V_hl h (fun H1 h => ?_)
  exact V_vret hC hret dX2_countEntry_13 h
theorem c_X2_countEntry (l : Launch) {nr : Nat} {r : Nat} (hr_r : r < nr) {H : Hp} {x : Unit} {H' : Hp} (h : f_X2_countEntry r H = some (x, H')) : CU l nr yX2_countEntry cX2_countEntry 1 none 0 0 (fun ad => [.ref (ad (r + 2) 0)]) H x H' := by
  intro D K4 ad sz
  refine Met.ofV (by decide) (Nat.le_of_ble_eq_true rfl) ?_
  intro p e s m args below meth c hC hret hsz
  subst hsz
  exact s_X2_countEntry hC hret hr_r h
theorem dX2_countStopped_0 : decode cX2_countStopped 0 = .ok (.aload_n 0, 1) := by decide +kernel
theorem dX2_countStopped_1 : decode cX2_countStopped 1 = .ok (.getfield 38, 3) := by decide +kernel
theorem dX2_countStopped_4 : decode cX2_countStopped 4 = .ok (.getfield 158, 3) := by decide +kernel
theorem dX2_countStopped_7 : decode cX2_countStopped 7 = .ok (.iload_n 1, 1) := by decide +kernel
theorem dX2_countStopped_8 : decode cX2_countStopped 8 = .ok (.dup2, 1) := by decide +kernel
theorem dX2_countStopped_9 : decode cX2_countStopped 9 = .ok (.laload, 1) := by decide +kernel
theorem dX2_countStopped_10 : decode cX2_countStopped 10 = .ok (.lconst 1, 1) := by decide +kernel
theorem dX2_countStopped_11 : decode cX2_countStopped 11 = .ok (.ladd, 1) := by decide +kernel
theorem dX2_countStopped_12 : decode cX2_countStopped 12 = .ok (.lastore, 1) := by decide +kernel
theorem dX2_countStopped_13 : decode cX2_countStopped 13 = .ok (.aload_n 0, 1) := by decide +kernel
theorem dX2_countStopped_14 : decode cX2_countStopped 14 = .ok (.getfield 38, 3) := by decide +kernel
theorem dX2_countStopped_17 : decode cX2_countStopped 17 = .ok (.dup, 1) := by decide +kernel
theorem dX2_countStopped_18 : decode cX2_countStopped 18 = .ok (.getfield 125, 3) := by decide +kernel
theorem dX2_countStopped_21 : decode cX2_countStopped 21 = .ok (.lconst 1, 1) := by decide +kernel
theorem dX2_countStopped_22 : decode cX2_countStopped 22 = .ok (.ladd, 1) := by decide +kernel
theorem dX2_countStopped_23 : decode cX2_countStopped 23 = .ok (.putfield 125, 3) := by decide +kernel
theorem dX2_countStopped_26 : decode cX2_countStopped 26 = .ok (.return_, 1) := by decide +kernel
def f_X2_countStopped (r : Nat) (a1 : Int32) (H : Hp) : Option (Unit × Hp) := gd a1 20 (gd a1 20 (hl (sJ H (r + 2) 36 (Int32.toNatClampNeg a1) ((gJ H (r + 2) 36 (Int32.toNatClampNeg a1)) + 1)) (fun (H1 : Hp) => hl (sJ H1 (r + 2) 4 4 ((gJ H1 (r + 2) 4 4) + 1)) (fun (H2 : Hp) => some ((), H2)))))
set_option maxRecDepth 100000 in
set_option maxHeartbeats 4000000 in
theorem s_X2_countStopped {p : Program} {l : Launch} {e : Env} {s : State} {m : MethodId} {args : Array Value} {below : List Frame} {meth : Method} {c : Code} {A : Nat → Prop} {D : va_G} {K4 : kQ} {ad : Nat → Nat → Nat} {nr : Nat} {r : Nat} {a1 : Int32} {H : Hp} {res : Unit × Hp} (hC : Cx p s m args c A s.heap D K4 2 RX2 cX2_countStopped) (hret : meth.sig.returnType = none ∧ meth.locks = false) (hr_r : r < nr) (h : f_X2_countStopped r a1 H = some res) : V p l e ({ frames := 0, cells := 0, slots := 0, locals := 0 }) s m args below meth c A s.heap (QU below args s A D K4 ad nr res) D K4 ad nr 2 0 [(0, .ref (ad (r + 2) 0)), (1, .int a1)] [] H := by
  unfold f_X2_countStopped at h
  refine V_aload_n hC 0 dX2_countStopped_0 rfl ?_
  refine V_getR (g := (r + 2)) (k := 0) (g' := (r + 2)) (k' := 4) hC 2 4 fl_X2_38 (okR hr_r rfl) rfl rfl rfl dX2_countStopped_1 ?_
  refine V_getR (g := (r + 2)) (k := 4) (g' := (r + 2)) (k' := 36) hC 0 2 fl_X2_158 (okR hr_r rfl) rfl rfl rfl dX2_countStopped_4 ?_
  refine V_iload_n hC 1 dX2_countStopped_7 rfl ?_
  refine V_dup2 hC dX2_countStopped_8 rfl rfl ?_
  obtain ⟨hi, h⟩ := gd_some h
  refine V_lald (g := (r + 2)) (k := 36) hC (okR hr_r rfl) rfl hi dX2_countStopped_9 ?_
  refine V_lconst (v := 1) hC dX2_countStopped_10 (by decide) ?_
  refine V_ladd hC dX2_countStopped_11 ?_
  obtain ⟨hi, h⟩ := gd_some h
  refine V_last (g := (r + 2)) (k := 36) hC (okR hr_r rfl) rfl hi dX2_countStopped_12 ?_
  refine V_hl h (fun H1 h => ?_)
  refine V_aload_n hC 0 dX2_countStopped_13 rfl ?_
  refine V_getR (g := (r + 2)) (k := 0) (g' := (r + 2)) (k' := 4) hC 2 4 fl_X2_38 (okR hr_r rfl) rfl rfl rfl dX2_countStopped_14 ?_
  refine V_dup hC dX2_countStopped_17 rfl ?_
  refine V_getJ (g := (r + 2)) (k := 4) hC 0 4 fl_X2_125 (okR hr_r rfl) rfl rfl dX2_countStopped_18 ?_
  refine V_lconst (v := 1) hC dX2_countStopped_21 (by decide) ?_
  refine V_ladd hC dX2_countStopped_22 ?_
  refine V_putJ (g := (r + 2)) (k := 4) hC 0 4 .long fw_X2_125 (okR hr_r rfl) rfl rfl rfl rfl dX2_countStopped_23 ?_
  refine V_hl h (fun H2 h => ?_)
  exact V_vret hC hret dX2_countStopped_26 h
theorem c_X2_countStopped (l : Launch) {nr : Nat} {r : Nat} (hr_r : r < nr) {a1 : Int32} {H : Hp} {x : Unit} {H' : Hp} (h : f_X2_countStopped r a1 H = some (x, H')) : CU l nr yX2_countStopped cX2_countStopped 2 none 0 0 (fun ad => [.ref (ad (r + 2) 0), .int a1]) H x H' := by
  intro D K4 ad sz
  refine Met.ofV (by decide) (Nat.le_of_ble_eq_true rfl) ?_
  intro p e s m args below meth c hC hret hsz
  subst hsz
  exact s_X2_countStopped hC hret hr_r h
theorem dX2_countGone_0 : decode cX2_countGone 0 = .ok (.aload_n 0, 1) := by decide +kernel
theorem dX2_countGone_1 : decode cX2_countGone 1 = .ok (.getfield 38, 3) := by decide +kernel
theorem dX2_countGone_4 : decode cX2_countGone 4 = .ok (.getfield 137, 3) := by decide +kernel
theorem dX2_countGone_7 : decode cX2_countGone 7 = .ok (.iload_n 1, 1) := by decide +kernel
theorem dX2_countGone_8 : decode cX2_countGone 8 = .ok (.dup2, 1) := by decide +kernel
theorem dX2_countGone_9 : decode cX2_countGone 9 = .ok (.laload, 1) := by decide +kernel
theorem dX2_countGone_10 : decode cX2_countGone 10 = .ok (.lconst 1, 1) := by decide +kernel
theorem dX2_countGone_11 : decode cX2_countGone 11 = .ok (.ladd, 1) := by decide +kernel
theorem dX2_countGone_12 : decode cX2_countGone 12 = .ok (.lastore, 1) := by decide +kernel
theorem dX2_countGone_13 : decode cX2_countGone 13 = .ok (.aload_n 0, 1) := by decide +kernel
theorem dX2_countGone_14 : decode cX2_countGone 14 = .ok (.getfield 31, 3) := by decide +kernel
theorem dX2_countGone_17 : decode cX2_countGone 17 = .ok (.getfield 96, 3) := by decide +kernel
theorem dX2_countGone_20 : decode cX2_countGone 20 = .ok (.iload_n 1, 1) := by decide +kernel
theorem dX2_countGone_21 : decode cX2_countGone 21 = .ok (.baload, 1) := by decide +kernel
theorem dX2_countGone_22 : decode cX2_countGone 22 = .ok (.ifCond .eq 5, 3) := by decide +kernel
theorem dX2_countGone_25 : decode cX2_countGone 25 = .ok (.iconst 0, 1) := by decide +kernel
theorem dX2_countGone_26 : decode cX2_countGone 26 = .ok (.ireturn, 1) := by decide +kernel
theorem dX2_countGone_27 : decode cX2_countGone 27 = .ok (.aload_n 0, 1) := by decide +kernel
theorem dX2_countGone_28 : decode cX2_countGone 28 = .ok (.getfield 38, 3) := by decide +kernel
theorem dX2_countGone_31 : decode cX2_countGone 31 = .ok (.getfield 140, 3) := by decide +kernel
theorem dX2_countGone_34 : decode cX2_countGone 34 = .ok (.iload_n 1, 1) := by decide +kernel
theorem dX2_countGone_35 : decode cX2_countGone 35 = .ok (.dup2, 1) := by decide +kernel
theorem dX2_countGone_36 : decode cX2_countGone 36 = .ok (.laload, 1) := by decide +kernel
theorem dX2_countGone_37 : decode cX2_countGone 37 = .ok (.lconst 1, 1) := by decide +kernel
theorem dX2_countGone_38 : decode cX2_countGone 38 = .ok (.ladd, 1) := by decide +kernel
theorem dX2_countGone_39 : decode cX2_countGone 39 = .ok (.lastore, 1) := by decide +kernel
theorem dX2_countGone_40 : decode cX2_countGone 40 = .ok (.iconst 1, 1) := by decide +kernel
theorem dX2_countGone_41 : decode cX2_countGone 41 = .ok (.ireturn, 1) := by decide +kernel
def f_X2_countGone (r : Nat) (a1 : Int32) (H : Hp) : Option (Int32 × Hp) := gd a1 40 (gd a1 40 (hl (sJ H (r + 2) 34 (Int32.toNatClampNeg a1) ((gJ H (r + 2) 34 (Int32.toNatClampNeg a1)) + 1)) (fun (H1 : Hp) => gd a1 61 (if (gI H1 (r + 2) 27 (Int32.toNatClampNeg a1)) = 0 then gd a1 40 (gd a1 40 (hl (sJ H1 (r + 2) 35 (Int32.toNatClampNeg a1) ((gJ H1 (r + 2) 35 (Int32.toNatClampNeg a1)) + 1)) (fun (H3 : Hp) => some (1, H3)))) else some (0, H1)))))
set_option maxRecDepth 100000 in
set_option maxHeartbeats 4000000 in
theorem s_X2_countGone {p : Program} {l : Launch} {e : Env} {s : State} {m : MethodId} {args : Array Value} {below : List Frame} {meth : Method} {c : Code} {A : Nat → Prop} {D : va_G} {K4 : kQ} {ad : Nat → Nat → Nat} {nr : Nat} {r : Nat} {a1 : Int32} {H : Hp} {res : Int32 × Hp} (hC : Cx p s m args c A s.heap D K4 2 RX2 cX2_countGone) (hret : meth.sig.returnType = (some .int) ∧ meth.locks = false) (hr_r : r < nr) (h : f_X2_countGone r a1 H = some res) : V p l e ({ frames := 0, cells := 0, slots := 0, locals := 0 }) s m args below meth c A s.heap (QI below args s A D K4 ad nr res) D K4 ad nr 2 0 [(0, .ref (ad (r + 2) 0)), (1, .int a1)] [] H := by
  unfold f_X2_countGone at h
  refine V_aload_n hC 0 dX2_countGone_0 rfl ?_
  refine V_getR (g := (r + 2)) (k := 0) (g' := (r + 2)) (k' := 4) hC 2 4 fl_X2_38 (okR hr_r rfl) rfl rfl rfl dX2_countGone_1 ?_
  refine V_getR (g := (r + 2)) (k := 4) (g' := (r + 2)) (k' := 34) hC 0 0 fl_X2_137 (okR hr_r rfl) rfl rfl rfl dX2_countGone_4 ?_
  refine V_iload_n hC 1 dX2_countGone_7 rfl ?_
  refine V_dup2 hC dX2_countGone_8 rfl rfl ?_
  obtain ⟨hi, h⟩ := gd_some h
  refine V_lald (g := (r + 2)) (k := 34) hC (okR hr_r rfl) rfl hi dX2_countGone_9 ?_
  refine V_lconst (v := 1) hC dX2_countGone_10 (by decide) ?_
  refine V_ladd hC dX2_countGone_11 ?_
  obtain ⟨hi, h⟩ := gd_some h
  refine V_last (g := (r + 2)) (k := 34) hC (okR hr_r rfl) rfl hi dX2_countGone_12 ?_
  refine V_hl h (fun H1 h => ?_)
  refine V_aload_n hC 0 dX2_countGone_13 rfl ?_
  refine V_getR (g := (r + 2)) (k := 0) (g' := (r + 2)) (k' := 3) hC 2 3 fl_X2_31 (okR hr_r rfl) rfl rfl rfl dX2_countGone_14 ?_
  refine V_getR (g := (r + 2)) (k := 3) (g' := (r + 2)) (k' := 27) hC 5 2 fl_X2_96 (okR hr_r rfl) rfl rfl rfl dX2_countGone_17 ?_
  refine V_iload_n hC 1 dX2_countGone_20 rfl ?_
  obtain ⟨hi, h⟩ := gd_some h
  refine V_zald (g := (r + 2)) (k := 27) hC (okR hr_r rfl) rfl hi dX2_countGone_21 ?_
  refine V_if_eq (tgt := 27) hC dX2_countGone_22 (by decide) (fun c2 => ?_) (fun c2 => ?_)
  · have h := it_pos c2 h
    refine V_aload_n hC 0 dX2_countGone_27 rfl ?_
    refine V_getR (g := (r + 2)) (k := 0) (g' := (r + 2)) (k' := 4) hC 2 4 fl_X2_38 (okR hr_r rfl) rfl rfl rfl dX2_countGone_28 ?_
    refine V_getR (g := (r + 2)) (k := 4) (g' := (r + 2)) (k' := 35) hC 0 1 fl_X2_140 (okR hr_r rfl) rfl rfl rfl dX2_countGone_31 ?_
    refine V_iload_n hC 1 dX2_countGone_34 rfl ?_
    refine V_dup2 hC dX2_countGone_35 rfl rfl ?_
    obtain ⟨hi, h⟩ := gd_some h
    refine V_lald (g := (r + 2)) (k := 35) hC (okR hr_r rfl) rfl hi dX2_countGone_36 ?_
    refine V_lconst (v := 1) hC dX2_countGone_37 (by decide) ?_
    refine V_ladd hC dX2_countGone_38 ?_
    obtain ⟨hi, h⟩ := gd_some h
    refine V_last (g := (r + 2)) (k := 35) hC (okR hr_r rfl) rfl hi dX2_countGone_39 ?_
    refine V_hl h (fun H3 h => ?_)
    refine V_iconst (v := 1) hC dX2_countGone_40 (by decide) ?_
    exact V_iret hC hret dX2_countGone_41 h
  · have h := it_neg c2 h
    refine V_iconst (v := 0) hC dX2_countGone_25 (by decide) ?_
    exact V_iret hC hret dX2_countGone_26 h
theorem c_X2_countGone (l : Launch) {nr : Nat} {r : Nat} (hr_r : r < nr) {a1 : Int32} {H : Hp} {x : Int32} {H' : Hp} (h : f_X2_countGone r a1 H = some (x, H')) : CI l nr yX2_countGone cX2_countGone 2 (some .int) 0 0 (fun ad => [.ref (ad (r + 2) 0), .int a1]) H x H' := by
  intro D K4 ad sz
  refine Met.ofV (by decide) (Nat.le_of_ble_eq_true rfl) ?_
  intro p e s m args below meth c hC hret hsz
  subst hsz
  exact s_X2_countGone hC hret hr_r h
