theorem dX6_topRoutine_0 : decode cX6_topRoutine 0 = .ok (.aload_n 0, 1) := by decide +kernel
theorem dX6_topRoutine_1 : decode cX6_topRoutine 1 = .ok (.getfield 56, 3) := by decide +kernel
theorem dX6_topRoutine_4 : decode cX6_topRoutine 4 = .ok (.iconst 1, 1) := by decide +kernel
theorem dX6_topRoutine_5 : decode cX6_topRoutine 5 = .ok (.if_icmp .lt 12, 3) := by decide +kernel
theorem dX6_topRoutine_8 : decode cX6_topRoutine 8 = .ok (.aload_n 0, 1) := by decide +kernel
theorem dX6_topRoutine_9 : decode cX6_topRoutine 9 = .ok (.getfield 56, 3) := by decide +kernel
theorem dX6_topRoutine_12 : decode cX6_topRoutine 12 = .ok (.bipush 30, 2) := by decide +kernel
theorem dX6_topRoutine_14 : decode cX6_topRoutine 14 = .ok (.if_icmp .le 7, 3) := by decide +kernel
theorem dX6_topRoutine_17 : decode cX6_topRoutine 17 = .ok (.aconst_null, 1) := by decide +kernel
theorem dX6_topRoutine_18 : decode cX6_topRoutine 18 = .ok (.goto 14, 3) := by decide +kernel
theorem dX6_topRoutine_21 : decode cX6_topRoutine 21 = .ok (.aload_n 0, 1) := by decide +kernel
theorem dX6_topRoutine_22 : decode cX6_topRoutine 22 = .ok (.getfield 11, 3) := by decide +kernel
theorem dX6_topRoutine_25 : decode cX6_topRoutine 25 = .ok (.aload_n 0, 1) := by decide +kernel
theorem dX6_topRoutine_26 : decode cX6_topRoutine 26 = .ok (.getfield 56, 3) := by decide +kernel
theorem dX6_topRoutine_29 : decode cX6_topRoutine 29 = .ok (.iconst 1, 1) := by decide +kernel
theorem dX6_topRoutine_30 : decode cX6_topRoutine 30 = .ok (.isub, 1) := by decide +kernel
theorem dX6_topRoutine_31 : decode cX6_topRoutine 31 = .ok (.aaload, 1) := by decide +kernel
theorem dX6_topRoutine_32 : decode cX6_topRoutine 32 = .ok (.areturn, 1) := by decide +kernel
def f_X6_topRoutine (H : Hp) : Option (Option Nat × Hp) := if (gI H 1 2 3) < 1 then some (none, H) else if (gI H 1 2 3) ≤ 30 then gd ((gI H 1 2 3) - 1) 30 (vl (gR H 1 4 (Int32.toNatClampNeg ((gI H 1 2 3) - 1))) (fun (o3 : Option Nat) => some (o3, H))) else some (none, H)
set_option maxRecDepth 100000 in
set_option maxHeartbeats 4000000 in
theorem s_X6_topRoutine {p : Program} {l : Launch} {e : Env} {s : State} {m : MethodId} {args : Array Value} {below : List Frame} {meth : Method} {c : Code} {A : Nat → Prop} {D : va_G} {K4 : kQ} {ad : Nat → Nat → Nat} {nr : Nat} {H : Hp} {res : Option Nat × Hp} (hC : Cx p s m args c A s.heap D K4 1 RX6 cX6_topRoutine) (hret : meth.sig.returnType = (some (.object "CounterPlacer$Routine")) ∧ meth.locks = false) (h : f_X6_topRoutine H = some res) : V p l e ({ frames := 0, cells := 0, slots := 0, locals := 0 }) s m args below meth c A s.heap (QQ below args s A D K4 ad nr res) D K4 ad nr 1 0 [(0, .ref (ad 1 2))] [] H := by
  unfold f_X6_topRoutine at h
  refine V_aload_n hC 0 dX6_topRoutine_0 rfl ?_
  refine V_getI (g := 1) (k := 2) hC 6 3 fl_X6_56 rfl rfl rfl dX6_topRoutine_1 ?_
  refine V_iconst (v := 1) hC dX6_topRoutine_4 (by decide) ?_
  refine V_icmp_lt (tgt := 17) hC dX6_topRoutine_5 (by decide) (fun c1 => ?_) (fun c1 => ?_)
  · replace h := it_pos c1 h
    refine V_null hC dX6_topRoutine_17 ?_
    refine V_goto (tgt := 32) hC dX6_topRoutine_18 (by decide) ?_
    exact V_qret (o := none) hC hret dX6_topRoutine_32 h
  · replace h := it_neg c1 h
    refine V_aload_n hC 0 dX6_topRoutine_8 rfl ?_
    refine V_getI (g := 1) (k := 2) hC 6 3 fl_X6_56 rfl rfl rfl dX6_topRoutine_9 ?_
    refine V_bipush (v := 30) hC dX6_topRoutine_12 (by decide) ?_
    refine V_icmp_le (tgt := 21) hC dX6_topRoutine_14 (by decide) (fun c2 => ?_) (fun c2 => ?_)
    · replace h := it_pos c2 h
      refine V_aload_n hC 0 dX6_topRoutine_21 rfl ?_
      refine V_getR (g := 1) (k := 2) (g' := 1) (k' := 4) hC 6 0 fl_X6_11 rfl rfl rfl rfl dX6_topRoutine_22 ?_
      refine V_aload_n hC 0 dX6_topRoutine_25 rfl ?_
      refine V_getI (g := 1) (k := 2) hC 6 3 fl_X6_56 rfl rfl rfl dX6_topRoutine_26 ?_
      refine V_iconst (v := 1) hC dX6_topRoutine_29 (by decide) ?_
      refine V_isub hC dX6_topRoutine_30 ?_
      obtain ⟨hi, h⟩ := gd_some h
      refine V_aald (g := 1) (k := 4) hC rfl rfl hi dX6_topRoutine_31 ?_
      refine V_vlQ h (fun o3 h => ?_)
      exact V_qret (o := o3) hC hret dX6_topRoutine_32 h
    · replace h := it_neg c2 h
      refine V_null hC dX6_topRoutine_17 ?_
      refine V_goto (tgt := 32) hC dX6_topRoutine_18 (by decide) ?_
      exact V_qret (o := none) hC hret dX6_topRoutine_32 h
theorem c_X6_topRoutine (l : Launch) {nr : Nat} {H : Hp} {x : Option Nat} {H' : Hp} (h : f_X6_topRoutine H = some (x, H')) : CQ l nr yX6_topRoutine cX6_topRoutine 1 (some (.object "CounterPlacer$Routine")) 0 0 (fun ad => [.ref (ad 1 2)]) H x H' := by
  intro D K4 ad sz
  refine Met.ofV (by decide) (Nat.le_of_ble_eq_true rfl) ?_
  intro p e s m args below meth c hC hret hsz
  subst hsz
  exact s_X6_topRoutine hC hret h
theorem dX6_dropFrames_0 : decode cX6_dropFrames 0 = .ok (.aload_n 0, 1) := by decide +kernel
theorem dX6_dropFrames_1 : decode cX6_dropFrames 1 = .ok (.getfield 56, 3) := by decide +kernel
theorem dX6_dropFrames_4 : decode cX6_dropFrames 4 = .ok (.iconst 1, 1) := by decide +kernel
theorem dX6_dropFrames_5 : decode cX6_dropFrames 5 = .ok (.isub, 1) := by decide +kernel
theorem dX6_dropFrames_6 : decode cX6_dropFrames 6 = .ok (.istore_n 1, 1) := by decide +kernel
theorem dX6_dropFrames_7 : decode cX6_dropFrames 7 = .ok (.iload_n 1, 1) := by decide +kernel
theorem dX6_dropFrames_8 : decode cX6_dropFrames 8 = .ok (.ifCond .lt 33, 3) := by decide +kernel
theorem dX6_dropFrames_11 : decode cX6_dropFrames 11 = .ok (.aload_n 0, 1) := by decide +kernel
theorem dX6_dropFrames_12 : decode cX6_dropFrames 12 = .ok (.getfield 11, 3) := by decide +kernel
theorem dX6_dropFrames_15 : decode cX6_dropFrames 15 = .ok (.iload_n 1, 1) := by decide +kernel
theorem dX6_dropFrames_16 : decode cX6_dropFrames 16 = .ok (.aaload, 1) := by decide +kernel
theorem dX6_dropFrames_17 : decode cX6_dropFrames 17 = .ok (.ifnull 18, 3) := by decide +kernel
theorem dX6_dropFrames_20 : decode cX6_dropFrames 20 = .ok (.aload_n 0, 1) := by decide +kernel
theorem dX6_dropFrames_21 : decode cX6_dropFrames 21 = .ok (.getfield 11, 3) := by decide +kernel
theorem dX6_dropFrames_24 : decode cX6_dropFrames 24 = .ok (.iload_n 1, 1) := by decide +kernel
theorem dX6_dropFrames_25 : decode cX6_dropFrames 25 = .ok (.aaload, 1) := by decide +kernel
theorem dX6_dropFrames_26 : decode cX6_dropFrames 26 = .ok (.aload_n 0, 1) := by decide +kernel
theorem dX6_dropFrames_27 : decode cX6_dropFrames 27 = .ok (.getfield 17, 3) := by decide +kernel
theorem dX6_dropFrames_30 : decode cX6_dropFrames 30 = .ok (.iload_n 1, 1) := by decide +kernel
theorem dX6_dropFrames_31 : decode cX6_dropFrames 31 = .ok (.iaload, 1) := by decide +kernel
theorem dX6_dropFrames_32 : decode cX6_dropFrames 32 = .ok (.invokevirtual 132, 3) := by decide +kernel
theorem dX6_dropFrames_35 : decode cX6_dropFrames 35 = .ok (.iinc 1 (-1), 3) := by decide +kernel
theorem dX6_dropFrames_38 : decode cX6_dropFrames 38 = .ok (.goto (-31), 3) := by decide +kernel
theorem dX6_dropFrames_41 : decode cX6_dropFrames 41 = .ok (.aload_n 0, 1) := by decide +kernel
theorem dX6_dropFrames_42 : decode cX6_dropFrames 42 = .ok (.iconst 0, 1) := by decide +kernel
theorem dX6_dropFrames_43 : decode cX6_dropFrames 43 = .ok (.putfield 56, 3) := by decide +kernel
theorem dX6_dropFrames_46 : decode cX6_dropFrames 46 = .ok (.return_, 1) := by decide +kernel
def L_X6_dropFrames_7 (nr : Nat) (k : Hp → Option (Unit × Hp)) : Nat → Int32 → Hp → Option (Unit × Hp)
  | 0, _, _ => none
  | n + 1, x1, H => if x1 < 0 then k H else gd x1 30 (vl (gR H 1 4 (Int32.toNatClampNeg x1)) (fun (o3 : Option Nat) => nz nr o3 (vl (x1 + (-1 : Int32)) (fun (v5 : Int32) => L_X6_dropFrames_7 nr k n v5 H)) (fun r4 => gd x1 30 (vl (gR H 1 4 (Int32.toNatClampNeg x1)) (fun (o6 : Option Nat) => gd x1 30 (nn nr o6 (fun r7 => bnd (f_X2_countStopped r7 (gI H 1 5 (Int32.toNatClampNeg x1)) H) (fun w9 H8 => vl (x1 + (-1 : Int32)) (fun (v10 : Int32) => L_X6_dropFrames_7 nr k n v10 H8)))))))))
set_option maxRecDepth 100000 in
set_option maxHeartbeats 4000000 in
theorem sL_X6_dropFrames_7 {p : Program} {l : Launch} {e : Env} {s : State} {m : MethodId} {args : Array Value} {below : List Frame} {meth : Method} {c : Code} {A : Nat → Prop} {D : va_G} {K4 : kQ} {ad : Nat → Nat → Nat} {nr : Nat} {k : Hp → Option (Unit × Hp)} {res : Unit × Hp} (hC : Cx p s m args c A s.heap D K4 2 RX6 cX6_dropFrames) (hret : meth.sig.returnType = none ∧ meth.locks = false) (hk : ∀ (H : Hp), k H = some res → V p l e ({ frames := 1, cells := 0, slots := 0, locals := 21 }) s m args below meth c A s.heap (QU below args s A D K4 ad nr res) D K4 ad nr 2 41 [(0, .ref (ad 1 2))] [] H) : ∀ (n : Nat) (x1 : Int32) (H : Hp), L_X6_dropFrames_7 nr k n x1 H = some res → V p l e ({ frames := 1, cells := 0, slots := 0, locals := 21 }) s m args below meth c A s.heap (QU below args s A D K4 ad nr res) D K4 ad nr 2 7 [(0, .ref (ad 1 2)), (1, .int x1)] [] H := by
  intro n
  induction n with
  | zero => intro x1 H h; exact nomatch (show (none : Option (Unit × Hp)) = some res from h)
  | succ n ih =>
    intro x1 H h
    rw [L_X6_dropFrames_7] at h
    refine V_iload_n hC 1 dX6_dropFrames_7 rfl ?_
    refine V_if_lt (tgt := 41) hC dX6_dropFrames_8 (by decide) (fun c2 => ?_) (fun c2 => ?_)
    · replace h := it_pos c2 h
      refine V_lv (lv' := [(0, .ref (ad 1 2))]) [0] rfl ?_
      exact hk H h
    · replace h := it_neg c2 h
      refine V_aload_n hC 0 dX6_dropFrames_11 rfl ?_
      refine V_getR (g := 1) (k := 2) (g' := 1) (k' := 4) hC 6 0 fl_X6_11 rfl rfl rfl rfl dX6_dropFrames_12 ?_
      refine V_iload_n hC 1 dX6_dropFrames_15 rfl ?_
      obtain ⟨hi, h⟩ := gd_some h
      refine V_aald (g := 1) (k := 4) hC rfl rfl hi dX6_dropFrames_16 ?_
      refine V_vlQ h (fun o3 h => ?_)
      replace h := nz_some h
      rcases h with ⟨rfl, h⟩ | ⟨r4, rfl, hr_r4, h⟩
      · refine V_ifnullN (tgt := 35) hC dX6_dropFrames_17 (by decide) ?_
        refine V_vi h (fun v5 hvv5 h => ?_)
        refine V_iinc (v := v5) (lv' := [(1, .int v5), (0, .ref (ad 1 2))]) hC 1 dX6_dropFrames_35 rfl hvv5.symm (Nat.le_of_ble_eq_true rfl) rfl ?_
        refine V_goto (tgt := 7) hC dX6_dropFrames_38 (by decide) ?_
        refine V_lv (lv' := [(0, .ref (ad 1 2)), (1, .int v5)]) [1, 0] rfl ?_
        exact ih v5 H h
      · refine V_ifnullS (r := r4) hC dX6_dropFrames_17 ?_
        refine V_aload_n hC 0 dX6_dropFrames_20 rfl ?_
        refine V_getR (g := 1) (k := 2) (g' := 1) (k' := 4) hC 6 0 fl_X6_11 rfl rfl rfl rfl dX6_dropFrames_21 ?_
        refine V_iload_n hC 1 dX6_dropFrames_24 rfl ?_
        obtain ⟨hi, h⟩ := gd_some h
        refine V_aald (g := 1) (k := 4) hC rfl rfl hi dX6_dropFrames_25 ?_
        refine V_vlQ h (fun o6 h => ?_)
        refine V_aload_n hC 0 dX6_dropFrames_26 rfl ?_
        refine V_getR (g := 1) (k := 2) (g' := 1) (k' := 5) hC 6 1 fl_X6_17 rfl rfl rfl rfl dX6_dropFrames_27 ?_
        refine V_iload_n hC 1 dX6_dropFrames_30 rfl ?_
        obtain ⟨hi, h⟩ := gd_some h
        refine V_iald (g := 1) (k := 5) hC rfl rfl hi dX6_dropFrames_31 ?_
        replace h := nn_some h
        obtain ⟨r7, rfl, hr_r7, h⟩ := h
        obtain ⟨w9, H8, hc, h⟩ := bnd_some h
        refine V_callu (g := (r7 + 2)) (k := 0) (As := [.int (gI H 1 5 (Int32.toNatClampNeg x1))]) (st := []) hC (c_X2_countStopped l (hr_r := hr_r7) hc) rfl ml_X6_132 ⟨Nat.le_of_ble_eq_true rfl, Nat.le_of_ble_eq_true rfl⟩ (okR hr_r7 rfl) rfl rfl (Nat.le_of_ble_eq_true rfl) dX6_dropFrames_32 ?_
        refine V_vi h (fun v10 hvv10 h => ?_)
        refine V_iinc (v := v10) (lv' := [(1, .int v10), (0, .ref (ad 1 2))]) hC 1 dX6_dropFrames_35 rfl hvv10.symm (Nat.le_of_ble_eq_true rfl) rfl ?_
        refine V_goto (tgt := 7) hC dX6_dropFrames_38 (by decide) ?_
        refine V_lv (lv' := [(0, .ref (ad 1 2)), (1, .int v10)]) [1, 0] rfl ?_
        exact ih v10 H8 h
def f_X6_dropFrames (nr : Nat) (H : Hp) : Option (Unit × Hp) := vl (((gI H 1 2 3) - 1)) (fun (v1 : Int32) => L_X6_dropFrames_7 nr (fun (H11 : Hp) => hl (sI H11 1 2 3 0) (fun (H12 : Hp) => some ((), H12))) FU v1 H)
set_option maxRecDepth 100000 in
set_option maxHeartbeats 4000000 in
theorem s_X6_dropFrames {p : Program} {l : Launch} {e : Env} {s : State} {m : MethodId} {args : Array Value} {below : List Frame} {meth : Method} {c : Code} {A : Nat → Prop} {D : va_G} {K4 : kQ} {ad : Nat → Nat → Nat} {nr : Nat} {H : Hp} {res : Unit × Hp} (hC : Cx p s m args c A s.heap D K4 2 RX6 cX6_dropFrames) (hret : meth.sig.returnType = none ∧ meth.locks = false) (h : f_X6_dropFrames nr H = some res) : V p l e ({ frames := 1, cells := 0, slots := 0, locals := 21 }) s m args below meth c A s.heap (QU below args s A D K4 ad nr res) D K4 ad nr 2 0 [(0, .ref (ad 1 2))] [] H := by
  unfold f_X6_dropFrames at h
  refine V_aload_n hC 0 dX6_dropFrames_0 rfl ?_
  refine V_getI (g := 1) (k := 2) hC 6 3 fl_X6_56 rfl rfl rfl dX6_dropFrames_1 ?_
  refine V_iconst (v := 1) hC dX6_dropFrames_4 (by decide) ?_
  refine V_isub hC dX6_dropFrames_5 ?_
  refine V_vlI h (fun v1 h => ?_)
  refine V_istore_n (lv' := [(1, .int v1), (0, .ref (ad 1 2))]) hC dX6_dropFrames_6 (Nat.le_of_ble_eq_true rfl) rfl ?_
  refine V_lv (lv' := [(0, .ref (ad 1 2)), (1, .int v1)]) [1, 0] rfl ?_
  refine sL_X6_dropFrames_7 hC hret (fun H11 h => ?_) _ v1 H h
  refine V_aload_n hC 0 dX6_dropFrames_41 rfl ?_
  refine V_iconst (v := 0) hC dX6_dropFrames_42 (by decide) ?_
  refine V_putI (g := 1) (k := 2) hC 6 3 .int fw_X6_56 rfl rfl rfl rfl rfl dX6_dropFrames_43 ?_
  refine V_hl h (fun H12 h => ?_)
  exact V_vret hC hret dX6_dropFrames_46 h
theorem c_X6_dropFrames (l : Launch) {nr : Nat} {H : Hp} {x : Unit} {H' : Hp} (h : f_X6_dropFrames nr H = some (x, H')) : CU l nr yX6_dropFrames cX6_dropFrames 2 none 1 21 (fun ad => [.ref (ad 1 2)]) H x H' := by
  intro D K4 ad sz
  refine Met.ofV (by decide) (Nat.le_of_ble_eq_true rfl) ?_
  intro p e s m args below meth c hC hret hsz
  subst hsz
  exact s_X6_dropFrames hC hret h
theorem dX6_choose_0 : decode cX6_choose 0 = .ok (.aload_n 0, 1) := by decide +kernel
theorem dX6_choose_1 : decode cX6_choose 1 = .ok (.getfield 42, 3) := by decide +kernel
theorem dX6_choose_4 : decode cX6_choose 4 = .ok (.iconst 2, 1) := by decide +kernel
theorem dX6_choose_5 : decode cX6_choose 5 = .ok (.aload_n 0, 1) := by decide +kernel
theorem dX6_choose_6 : decode cX6_choose 6 = .ok (.getfield 45, 3) := by decide +kernel
theorem dX6_choose_9 : decode cX6_choose 9 = .ok (.bipush 16, 2) := by decide +kernel
theorem dX6_choose_11 : decode cX6_choose 11 = .ok (.irem, 1) := by decide +kernel
theorem dX6_choose_12 : decode cX6_choose 12 = .ok (.imul, 1) := by decide +kernel
theorem dX6_choose_13 : decode cX6_choose 13 = .ok (.ishr, 1) := by decide +kernel
theorem dX6_choose_14 : decode cX6_choose 14 = .ok (.iconst 3, 1) := by decide +kernel
theorem dX6_choose_15 : decode cX6_choose 15 = .ok (.iand, 1) := by decide +kernel
theorem dX6_choose_16 : decode cX6_choose 16 = .ok (.istore_n 2, 1) := by decide +kernel
theorem dX6_choose_17 : decode cX6_choose 17 = .ok (.aload_n 0, 1) := by decide +kernel
theorem dX6_choose_18 : decode cX6_choose 18 = .ok (.dup, 1) := by decide +kernel
theorem dX6_choose_19 : decode cX6_choose 19 = .ok (.getfield 45, 3) := by decide +kernel
theorem dX6_choose_22 : decode cX6_choose 22 = .ok (.iconst 1, 1) := by decide +kernel
theorem dX6_choose_23 : decode cX6_choose 23 = .ok (.iadd, 1) := by decide +kernel
theorem dX6_choose_24 : decode cX6_choose 24 = .ok (.putfield 45, 3) := by decide +kernel
theorem dX6_choose_27 : decode cX6_choose 27 = .ok (.iload_n 1, 1) := by decide +kernel
theorem dX6_choose_28 : decode cX6_choose 28 = .ok (.ifCond .le 9, 3) := by decide +kernel
theorem dX6_choose_31 : decode cX6_choose 31 = .ok (.iload_n 2, 1) := by decide +kernel
theorem dX6_choose_32 : decode cX6_choose 32 = .ok (.iload_n 1, 1) := by decide +kernel
theorem dX6_choose_33 : decode cX6_choose 33 = .ok (.irem, 1) := by decide +kernel
theorem dX6_choose_34 : decode cX6_choose 34 = .ok (.goto 4, 3) := by decide +kernel
theorem dX6_choose_37 : decode cX6_choose 37 = .ok (.iconst 0, 1) := by decide +kernel
theorem dX6_choose_38 : decode cX6_choose 38 = .ok (.ireturn, 1) := by decide +kernel
def f_X6_choose (a1 : Int32) (H : Hp) : Option (Int32 × Hp) := gb (decide (¬ 16 = (0 : Int32))) (vl ((((gI H 1 2 8) >>> ((2 * ((gI H 1 2 7) - (gI H 1 2 7) / 16 * 16)) &&& 31)) &&& 3)) (fun (v1 : Int32) => hl (sI H 1 2 7 ((gI H 1 2 7) + 1)) (fun (H2 : Hp) => if a1 ≤ 0 then some (0, H2) else gb (decide (¬ a1 = (0 : Int32))) (some ((v1 - v1 / a1 * a1), H2)))))
set_option maxRecDepth 100000 in
set_option maxHeartbeats 4000000 in
theorem s_X6_choose {p : Program} {l : Launch} {e : Env} {s : State} {m : MethodId} {args : Array Value} {below : List Frame} {meth : Method} {c : Code} {A : Nat → Prop} {D : va_G} {K4 : kQ} {ad : Nat → Nat → Nat} {nr : Nat} {a1 : Int32} {H : Hp} {res : Int32 × Hp} (hC : Cx p s m args c A s.heap D K4 3 RX6 cX6_choose) (hret : meth.sig.returnType = (some .int) ∧ meth.locks = false) (h : f_X6_choose a1 H = some res) : V p l e ({ frames := 0, cells := 0, slots := 0, locals := 0 }) s m args below meth c A s.heap (QI below args s A D K4 ad nr res) D K4 ad nr 3 0 [(0, .ref (ad 1 2)), (1, .int a1)] [] H := by
  unfold f_X6_choose at h
  refine V_aload_n hC 0 dX6_choose_0 rfl ?_
  refine V_getI (g := 1) (k := 2) hC 6 8 fl_X6_42 rfl rfl rfl dX6_choose_1 ?_
  refine V_iconst (v := 2) hC dX6_choose_4 (by decide) ?_
  refine V_aload_n hC 0 dX6_choose_5 rfl ?_
  refine V_getI (g := 1) (k := 2) hC 6 7 fl_X6_45 rfl rfl rfl dX6_choose_6 ?_
  refine V_bipush (v := 16) hC dX6_choose_9 (by decide) ?_
  obtain ⟨hz, h⟩ := gb_some h
  refine V_irem hC dX6_choose_11 (of_decide_eq_true hz) ?_
  refine V_imul hC dX6_choose_12 ?_
  refine V_ishr hC dX6_choose_13 ?_
  refine V_iconst (v := 3) hC dX6_choose_14 (by decide) ?_
  refine V_iand hC dX6_choose_15 ?_
  refine V_vlI h (fun v1 h => ?_)
  refine V_istore_n (lv' := [(2, .int v1), (0, .ref (ad 1 2)), (1, .int a1)]) hC dX6_choose_16 (Nat.le_of_ble_eq_true rfl) rfl ?_
  refine V_aload_n hC 1 dX6_choose_17 rfl ?_
  refine V_dup hC dX6_choose_18 rfl ?_
  refine V_getI (g := 1) (k := 2) hC 6 7 fl_X6_45 rfl rfl rfl dX6_choose_19 ?_
  refine V_iconst (v := 1) hC dX6_choose_22 (by decide) ?_
  refine V_iadd hC dX6_choose_23 ?_
  refine V_putI (g := 1) (k := 2) hC 6 7 .int fw_X6_45 rfl rfl rfl rfl rfl dX6_choose_24 ?_
  refine V_hl h (fun H2 h => ?_)
  refine V_iload_n hC 2 dX6_choose_27 rfl ?_
  refine V_if_le (tgt := 37) hC dX6_choose_28 (by decide) (fun c3 => ?_) (fun c3 => ?_)
  · replace h := it_pos c3 h
    refine V_iconst (v := 0) hC dX6_choose_37 (by decide) ?_
    exact V_iret hC hret dX6_choose_38 h
  · replace h := it_neg c3 h
    refine V_iload_n hC 0 dX6_choose_31 rfl ?_
    refine V_iload_n hC 2 dX6_choose_32 rfl ?_
    obtain ⟨hz, h⟩ := gb_some h
    refine V_irem hC dX6_choose_33 (of_decide_eq_true hz) ?_
    refine V_goto (tgt := 38) hC dX6_choose_34 (by decide) ?_
    exact V_iret hC hret dX6_choose_38 h
theorem c_X6_choose (l : Launch) {nr : Nat} {a1 : Int32} {H : Hp} {x : Int32} {H' : Hp} (h : f_X6_choose a1 H = some (x, H')) : CI l nr yX6_choose cX6_choose 3 (some .int) 0 0 (fun ad => [.ref (ad 1 2), .int a1]) H x H' := by
  intro D K4 ad sz
  refine Met.ofV (by decide) (Nat.le_of_ble_eq_true rfl) ?_
  intro p e s m args below meth c hC hret hsz
  subst hsz
  exact s_X6_choose hC hret h
theorem dX6_enter_0 : decode cX6_enter 0 = .ok (.aload_n 0, 1) := by decide +kernel
theorem dX6_enter_1 : decode cX6_enter 1 = .ok (.getfield 56, 3) := by decide +kernel
theorem dX6_enter_4 : decode cX6_enter 4 = .ok (.bipush 30, 2) := by decide +kernel
theorem dX6_enter_6 : decode cX6_enter 6 = .ok (.if_icmp .ge 47, 3) := by decide +kernel
theorem dX6_enter_9 : decode cX6_enter 9 = .ok (.aload_n 0, 1) := by decide +kernel
theorem dX6_enter_10 : decode cX6_enter 10 = .ok (.getfield 11, 3) := by decide +kernel
theorem dX6_enter_13 : decode cX6_enter 13 = .ok (.aload_n 0, 1) := by decide +kernel
theorem dX6_enter_14 : decode cX6_enter 14 = .ok (.getfield 56, 3) := by decide +kernel
theorem dX6_enter_17 : decode cX6_enter 17 = .ok (.aload_n 1, 1) := by decide +kernel
theorem dX6_enter_18 : decode cX6_enter 18 = .ok (.aastore, 1) := by decide +kernel
theorem dX6_enter_19 : decode cX6_enter 19 = .ok (.aload_n 0, 1) := by decide +kernel
theorem dX6_enter_20 : decode cX6_enter 20 = .ok (.getfield 17, 3) := by decide +kernel
theorem dX6_enter_23 : decode cX6_enter 23 = .ok (.aload_n 0, 1) := by decide +kernel
theorem dX6_enter_24 : decode cX6_enter 24 = .ok (.getfield 56, 3) := by decide +kernel
theorem dX6_enter_27 : decode cX6_enter 27 = .ok (.iconst 0, 1) := by decide +kernel
theorem dX6_enter_28 : decode cX6_enter 28 = .ok (.iastore, 1) := by decide +kernel
theorem dX6_enter_29 : decode cX6_enter 29 = .ok (.aload_n 0, 1) := by decide +kernel
theorem dX6_enter_30 : decode cX6_enter 30 = .ok (.getfield 21, 3) := by decide +kernel
theorem dX6_enter_33 : decode cX6_enter 33 = .ok (.aload_n 0, 1) := by decide +kernel
theorem dX6_enter_34 : decode cX6_enter 34 = .ok (.getfield 56, 3) := by decide +kernel
theorem dX6_enter_37 : decode cX6_enter 37 = .ok (.lconst 0, 1) := by decide +kernel
theorem dX6_enter_38 : decode cX6_enter 38 = .ok (.lastore, 1) := by decide +kernel
theorem dX6_enter_39 : decode cX6_enter 39 = .ok (.aload_n 0, 1) := by decide +kernel
theorem dX6_enter_40 : decode cX6_enter 40 = .ok (.dup, 1) := by decide +kernel
theorem dX6_enter_41 : decode cX6_enter 41 = .ok (.getfield 56, 3) := by decide +kernel
theorem dX6_enter_44 : decode cX6_enter 44 = .ok (.iconst 1, 1) := by decide +kernel
theorem dX6_enter_45 : decode cX6_enter 45 = .ok (.iadd, 1) := by decide +kernel
theorem dX6_enter_46 : decode cX6_enter 46 = .ok (.putfield 56, 3) := by decide +kernel
theorem dX6_enter_49 : decode cX6_enter 49 = .ok (.aload_n 1, 1) := by decide +kernel
theorem dX6_enter_50 : decode cX6_enter 50 = .ok (.invokevirtual 107, 3) := by decide +kernel
theorem dX6_enter_53 : decode cX6_enter 53 = .ok (.return_, 1) := by decide +kernel
def f_X6_enter (r : Nat) (H : Hp) : Option (Unit × Hp) := if 30 ≤ (gI H 1 2 3) then some ((), H) else gd (gI H 1 2 3) 30 (hl (sR H 1 4 (Int32.toNatClampNeg (gI H 1 2 3)) (some r)) (fun (H2 : Hp) => gd (gI H2 1 2 3) 30 (hl (sI H2 1 5 (Int32.toNatClampNeg (gI H2 1 2 3)) 0) (fun (H3 : Hp) => gd (gI H3 1 2 3) 30 (hl (sJ H3 1 6 (Int32.toNatClampNeg (gI H3 1 2 3)) 0) (fun (H4 : Hp) => hl (sI H4 1 2 3 ((gI H4 1 2 3) + 1)) (fun (H5 : Hp) => bnd (f_X2_countEntry r H5) (fun w7 H6 => some ((), H6)))))))))
set_option maxRecDepth 100000 in
set_option maxHeartbeats 4000000 in
theorem s_X6_enter {p : Program} {l : Launch} {e : Env} {s : State} {m : MethodId} {args : Array Value} {below : List Frame} {meth : Method} {c : Code} {A : Nat → Prop} {D : va_G} {K4 : kQ} {ad : Nat → Nat → Nat} {nr : Nat} {r : Nat} {H : Hp} {res : Unit × Hp} (hC : Cx p s m args c A s.heap D K4 2 RX6 cX6_enter) (hret : meth.sig.returnType = none ∧ meth.locks = false) (hr_r : r < nr) (h : f_X6_enter r H = some res) : V p l e ({ frames := 1, cells := 0, slots := 0, locals := 20 }) s m args below meth c A s.heap (QU below args s A D K4 ad nr res) D K4 ad nr 2 0 [(0, .ref (ad 1 2)), (1, .ref (ad (r + 2) 0))] [] H := by
  unfold f_X6_enter at h
  refine V_aload_n hC 0 dX6_enter_0 rfl ?_
  refine V_getI (g := 1) (k := 2) hC 6 3 fl_X6_56 rfl rfl rfl dX6_enter_1 ?_
  refine V_bipush (v := 30) hC dX6_enter_4 (by decide) ?_
  refine V_icmp_ge (tgt := 53) hC dX6_enter_6 (by decide) (fun c1 => ?_) (fun c1 => ?_)
  · replace h := it_pos c1 h
    exact V_vret hC hret dX6_enter_53 h
  · replace h := it_neg c1 h
    refine V_aload_n hC 0 dX6_enter_9 rfl ?_
    refine V_getR (g := 1) (k := 2) (g' := 1) (k' := 4) hC 6 0 fl_X6_11 rfl rfl rfl rfl dX6_enter_10 ?_
    refine V_aload_n hC 0 dX6_enter_13 rfl ?_
    refine V_getI (g := 1) (k := 2) hC 6 3 fl_X6_56 rfl rfl rfl dX6_enter_14 ?_
    refine V_aload_n hC 1 dX6_enter_17 rfl ?_
    obtain ⟨hi, h⟩ := gd_some h
    refine V_aast (g := 1) (k := 4) hC rfl rfl hr_r hi dX6_enter_18 ?_
    refine V_hl h (fun H2 h => ?_)
    refine V_aload_n hC 0 dX6_enter_19 rfl ?_
    refine V_getR (g := 1) (k := 2) (g' := 1) (k' := 5) hC 6 1 fl_X6_17 rfl rfl rfl rfl dX6_enter_20 ?_
    refine V_aload_n hC 0 dX6_enter_23 rfl ?_
    refine V_getI (g := 1) (k := 2) hC 6 3 fl_X6_56 rfl rfl rfl dX6_enter_24 ?_
    refine V_iconst (v := 0) hC dX6_enter_27 (by decide) ?_
    obtain ⟨hi, h⟩ := gd_some h
    refine V_iast (g := 1) (k := 5) hC rfl rfl hi dX6_enter_28 ?_
    refine V_hl h (fun H3 h => ?_)
    refine V_aload_n hC 0 dX6_enter_29 rfl ?_
    refine V_getR (g := 1) (k := 2) (g' := 1) (k' := 6) hC 6 2 fl_X6_21 rfl rfl rfl rfl dX6_enter_30 ?_
    refine V_aload_n hC 0 dX6_enter_33 rfl ?_
    refine V_getI (g := 1) (k := 2) hC 6 3 fl_X6_56 rfl rfl rfl dX6_enter_34 ?_
    refine V_lconst (v := 0) hC dX6_enter_37 (by decide) ?_
    obtain ⟨hi, h⟩ := gd_some h
    refine V_last (g := 1) (k := 6) hC rfl rfl hi dX6_enter_38 ?_
    refine V_hl h (fun H4 h => ?_)
    refine V_aload_n hC 0 dX6_enter_39 rfl ?_
    refine V_dup hC dX6_enter_40 rfl ?_
    refine V_getI (g := 1) (k := 2) hC 6 3 fl_X6_56 rfl rfl rfl dX6_enter_41 ?_
    refine V_iconst (v := 1) hC dX6_enter_44 (by decide) ?_
    refine V_iadd hC dX6_enter_45 ?_
    refine V_putI (g := 1) (k := 2) hC 6 3 .int fw_X6_56 rfl rfl rfl rfl rfl dX6_enter_46 ?_
    refine V_hl h (fun H5 h => ?_)
    refine V_aload_n hC 1 dX6_enter_49 rfl ?_
    obtain ⟨w7, H6, hc, h⟩ := bnd_some h
    refine V_callu (g := (r + 2)) (k := 0) (As := []) (st := []) hC (c_X2_countEntry l (hr_r := hr_r) hc) rfl ml_X6_107 ⟨Nat.le_of_ble_eq_true rfl, Nat.le_of_ble_eq_true rfl⟩ (okR hr_r rfl) rfl rfl (Nat.le_of_ble_eq_true rfl) dX6_enter_50 ?_
    exact V_vret hC hret dX6_enter_53 h
theorem c_X6_enter (l : Launch) {nr : Nat} {r : Nat} (hr_r : r < nr) {H : Hp} {x : Unit} {H' : Hp} (h : f_X6_enter r H = some (x, H')) : CU l nr yX6_enter cX6_enter 2 none 1 20 (fun ad => [.ref (ad 1 2), .ref (ad (r + 2) 0)]) H x H' := by
  intro D K4 ad sz
  refine Met.ofV (by decide) (Nat.le_of_ble_eq_true rfl) ?_
  intro p e s m args below meth c hC hret hsz
  subst hsz
  exact s_X6_enter hC hret hr_r h
theorem dX6_enterCalled_0 : decode cX6_enterCalled 0 = .ok (.iload_n 1, 1) := by decide +kernel
theorem dX6_enterCalled_1 : decode cX6_enterCalled 1 = .ok (.ifCond .lt 9, 3) := by decide +kernel
theorem dX6_enterCalled_4 : decode cX6_enterCalled 4 = .ok (.iload_n 1, 1) := by decide +kernel
theorem dX6_enterCalled_5 : decode cX6_enterCalled 5 = .ok (.aload_n 2, 1) := by decide +kernel
theorem dX6_enterCalled_6 : decode cX6_enterCalled 6 = .ok (.arraylength, 1) := by decide +kernel
theorem dX6_enterCalled_7 : decode cX6_enterCalled 7 = .ok (.if_icmp .lt 7, 3) := by decide +kernel
theorem dX6_enterCalled_10 : decode cX6_enterCalled 10 = .ok (.aconst_null, 1) := by decide +kernel
theorem dX6_enterCalled_11 : decode cX6_enterCalled 11 = .ok (.goto 6, 3) := by decide +kernel
theorem dX6_enterCalled_14 : decode cX6_enterCalled 14 = .ok (.aload_n 2, 1) := by decide +kernel
theorem dX6_enterCalled_15 : decode cX6_enterCalled 15 = .ok (.iload_n 1, 1) := by decide +kernel
theorem dX6_enterCalled_16 : decode cX6_enterCalled 16 = .ok (.aaload, 1) := by decide +kernel
theorem dX6_enterCalled_17 : decode cX6_enterCalled 17 = .ok (.astore_n 3, 1) := by decide +kernel
theorem dX6_enterCalled_18 : decode cX6_enterCalled 18 = .ok (.aload_n 3, 1) := by decide +kernel
theorem dX6_enterCalled_19 : decode cX6_enterCalled 19 = .ok (.ifnull 19, 3) := by decide +kernel
theorem dX6_enterCalled_22 : decode cX6_enterCalled 22 = .ok (.aload_n 3, 1) := by decide +kernel
theorem dX6_enterCalled_23 : decode cX6_enterCalled 23 = .ok (.getfield 103, 3) := by decide +kernel
theorem dX6_enterCalled_26 : decode cX6_enterCalled 26 = .ok (.ifCond .eq 12, 3) := by decide +kernel
theorem dX6_enterCalled_29 : decode cX6_enterCalled 29 = .ok (.aload_n 0, 1) := by decide +kernel
theorem dX6_enterCalled_30 : decode cX6_enterCalled 30 = .ok (.getfield 56, 3) := by decide +kernel
theorem dX6_enterCalled_33 : decode cX6_enterCalled 33 = .ok (.bipush 30, 2) := by decide +kernel
theorem dX6_enterCalled_35 : decode cX6_enterCalled 35 = .ok (.if_icmp .lt 13, 3) := by decide +kernel
theorem dX6_enterCalled_38 : decode cX6_enterCalled 38 = .ok (.aload_n 0, 1) := by decide +kernel
theorem dX6_enterCalled_39 : decode cX6_enterCalled 39 = .ok (.invokevirtual 29, 3) := by decide +kernel
theorem dX6_enterCalled_42 : decode cX6_enterCalled 42 = .ok (.aload_n 0, 1) := by decide +kernel
theorem dX6_enterCalled_43 : decode cX6_enterCalled 43 = .ok (.iconst 4, 1) := by decide +kernel
theorem dX6_enterCalled_44 : decode cX6_enterCalled 44 = .ok (.putfield 25, 3) := by decide +kernel
theorem dX6_enterCalled_47 : decode cX6_enterCalled 47 = .ok (.return_, 1) := by decide +kernel
theorem dX6_enterCalled_48 : decode cX6_enterCalled 48 = .ok (.aload_n 0, 1) := by decide +kernel
theorem dX6_enterCalled_49 : decode cX6_enterCalled 49 = .ok (.aload_n 3, 1) := by decide +kernel
theorem dX6_enterCalled_50 : decode cX6_enterCalled 50 = .ok (.invokevirtual 38, 3) := by decide +kernel
theorem dX6_enterCalled_53 : decode cX6_enterCalled 53 = .ok (.return_, 1) := by decide +kernel
def f_X6_enterCalled (nr : Nat) (a1 : Int32) (H : Hp) : Option (Unit × Hp) := jn (fun (y2 : Option Nat) (H3 : Hp) => nz nr y2 (bnd (f_X6_dropFrames nr H3) (fun w6 H5 => hl (sI H5 1 2 4 4) (fun (H7 : Hp) => some ((), H7)))) (fun r4 => if (gI H3 (r4 + 2) 0 8) = 0 then bnd (f_X6_dropFrames nr H3) (fun w10 H9 => hl (sI H9 1 2 4 4) (fun (H11 : Hp) => some ((), H11))) else if (gI H3 1 2 3) < 30 then bnd (f_X6_enter r4 H3) (fun w14 H13 => some ((), H13)) else bnd (f_X6_dropFrames nr H3) (fun w16 H15 => hl (sI H15 1 2 4 4) (fun (H17 : Hp) => some ((), H17))))) (fun j1 => if a1 < 0 then j1 none H else if a1 < 8 then gd a1 8 (vl (gR H 1 1 (Int32.toNatClampNeg a1)) (fun (o20 : Option Nat) => j1 o20 H)) else j1 none H)
set_option maxRecDepth 100000 in
set_option maxHeartbeats 4000000 in
theorem s_X6_enterCalled {p : Program} {l : Launch} {e : Env} {s : State} {m : MethodId} {args : Array Value} {below : List Frame} {meth : Method} {c : Code} {A : Nat → Prop} {D : va_G} {K4 : kQ} {ad : Nat → Nat → Nat} {nr : Nat} {a1 : Int32} {H : Hp} {res : Unit × Hp} (hC : Cx p s m args c A s.heap D K4 4 RX6 cX6_enterCalled) (hret : meth.sig.returnType = none ∧ meth.locks = false) (h : f_X6_enterCalled nr a1 H = some res) : V p l e ({ frames := 2, cells := 0, slots := 0, locals := 42 }) s m args below meth c A s.heap (QU below args s A D K4 ad nr res) D K4 ad nr 4 0 [(0, .ref (ad 1 2)), (1, .int a1), (2, .ref (ad 1 1))] [] H := by
  unfold f_X6_enterCalled at h
  refine V_iload_n hC 1 dX6_enterCalled_0 rfl ?_
  refine V_jn1 (pj := 17) (lj := fun y2 => [(0, .ref (ad 1 2))]) (sj := fun y2 => [vr ad y2]) h (fun y2 H3 h => ?_) (fun hj1 h => ?_)
  · refine V_astoreq_n (lv' := [(3, vr ad y2), (0, .ref (ad 1 2))]) hC dX6_enterCalled_17 (Nat.le_of_ble_eq_true rfl) rfl ?_
    refine V_aloadq_n hC 0 dX6_enterCalled_18 rfl ?_
    replace h := nz_some h
    rcases h with ⟨rfl, h⟩ | ⟨r4, rfl, hr_r4, h⟩
    · refine V_ifnullN (tgt := 38) hC dX6_enterCalled_19 (by decide) ?_
      refine V_aload_n hC 1 dX6_enterCalled_38 rfl ?_
      obtain ⟨w6, H5, hc, h⟩ := bnd_some h
      refine V_callu (g := 1) (k := 2) (As := []) (st := []) hC (c_X6_dropFrames l hc) rfl ml_X6_29 ⟨Nat.le_of_ble_eq_true rfl, Nat.le_of_ble_eq_true rfl⟩ rfl rfl rfl (Nat.le_of_ble_eq_true rfl) dX6_enterCalled_39 ?_
      refine V_aload_n hC 1 dX6_enterCalled_42 rfl ?_
      refine V_iconst (v := 4) hC dX6_enterCalled_43 (by decide) ?_
      refine V_putI (g := 1) (k := 2) hC 6 4 .int fw_X6_25 rfl rfl rfl rfl rfl dX6_enterCalled_44 ?_
      refine V_hl h (fun H7 h => ?_)
      exact V_vret hC hret dX6_enterCalled_47 h
    · refine V_ifnullS (r := r4) hC dX6_enterCalled_19 ?_
      refine V_aload_n hC 0 dX6_enterCalled_22 rfl ?_
      refine V_getI (g := (r4 + 2)) (k := 0) hC 2 8 fl_X6_103 (okR hr_r4 rfl) rfl rfl dX6_enterCalled_23 ?_
      refine V_if_eq (tgt := 38) hC dX6_enterCalled_26 (by decide) (fun c8 => ?_) (fun c8 => ?_)
      · replace h := it_pos c8 h
        refine V_aload_n hC 1 dX6_enterCalled_38 rfl ?_
        obtain ⟨w10, H9, hc, h⟩ := bnd_some h
        refine V_callu (g := 1) (k := 2) (As := []) (st := []) hC (c_X6_dropFrames l hc) rfl ml_X6_29 ⟨Nat.le_of_ble_eq_true rfl, Nat.le_of_ble_eq_true rfl⟩ rfl rfl rfl (Nat.le_of_ble_eq_true rfl) dX6_enterCalled_39 ?_
        refine V_aload_n hC 1 dX6_enterCalled_42 rfl ?_
        refine V_iconst (v := 4) hC dX6_enterCalled_43 (by decide) ?_
        refine V_putI (g := 1) (k := 2) hC 6 4 .int fw_X6_25 rfl rfl rfl rfl rfl dX6_enterCalled_44 ?_
        refine V_hl h (fun H11 h => ?_)
        exact V_vret hC hret dX6_enterCalled_47 h
      · replace h := it_neg c8 h
        refine V_aload_n hC 1 dX6_enterCalled_29 rfl ?_
        refine V_getI (g := 1) (k := 2) hC 6 3 fl_X6_56 rfl rfl rfl dX6_enterCalled_30 ?_
        refine V_bipush (v := 30) hC dX6_enterCalled_33 (by decide) ?_
        refine V_icmp_lt (tgt := 48) hC dX6_enterCalled_35 (by decide) (fun c12 => ?_) (fun c12 => ?_)
        · replace h := it_pos c12 h
          refine V_aload_n hC 1 dX6_enterCalled_48 rfl ?_
          refine V_aload_n hC 0 dX6_enterCalled_49 rfl ?_
          obtain ⟨w14, H13, hc, h⟩ := bnd_some h
          refine V_callu (g := 1) (k := 2) (As := [.ref (ad (r4 + 2) 0)]) (st := []) hC (c_X6_enter l (hr_r := hr_r4) hc) rfl ml_X6_38 ⟨Nat.le_of_ble_eq_true rfl, Nat.le_of_ble_eq_true rfl⟩ rfl rfl rfl (Nat.le_of_ble_eq_true rfl) dX6_enterCalled_50 ?_
          exact V_vret hC hret dX6_enterCalled_53 h
        · replace h := it_neg c12 h
          refine V_aload_n hC 1 dX6_enterCalled_38 rfl ?_
          obtain ⟨w16, H15, hc, h⟩ := bnd_some h
          refine V_callu (g := 1) (k := 2) (As := []) (st := []) hC (c_X6_dropFrames l hc) rfl ml_X6_29 ⟨Nat.le_of_ble_eq_true rfl, Nat.le_of_ble_eq_true rfl⟩ rfl rfl rfl (Nat.le_of_ble_eq_true rfl) dX6_enterCalled_39 ?_
          refine V_aload_n hC 1 dX6_enterCalled_42 rfl ?_
          refine V_iconst (v := 4) hC dX6_enterCalled_43 (by decide) ?_
          refine V_putI (g := 1) (k := 2) hC 6 4 .int fw_X6_25 rfl rfl rfl rfl rfl dX6_enterCalled_44 ?_
          refine V_hl h (fun H17 h => ?_)
          exact V_vret hC hret dX6_enterCalled_47 h
  · refine V_if_lt (tgt := 10) hC dX6_enterCalled_1 (by decide) (fun c18 => ?_) (fun c18 => ?_)
    · replace h := it_pos c18 h
      refine V_null hC dX6_enterCalled_10 ?_
      refine V_goto (tgt := 17) hC dX6_enterCalled_11 (by decide) ?_
      refine V_lv (lv' := [(0, .ref (ad 1 2))]) [0] rfl ?_
      exact hj1 none H h
    · replace h := it_neg c18 h
      refine V_iload_n hC 1 dX6_enterCalled_4 rfl ?_
      refine V_aload_n hC 2 dX6_enterCalled_5 rfl ?_
      refine V_alen (g := 1) (k := 1) (v := 8) hC rfl rfl (by decide) (by decide) dX6_enterCalled_6 ?_
      refine V_icmp_lt (tgt := 14) hC dX6_enterCalled_7 (by decide) (fun c19 => ?_) (fun c19 => ?_)
      · replace h := it_pos c19 h
        refine V_aload_n hC 2 dX6_enterCalled_14 rfl ?_
        refine V_iload_n hC 1 dX6_enterCalled_15 rfl ?_
        obtain ⟨hi, h⟩ := gd_some h
        refine V_aald (g := 1) (k := 1) hC rfl rfl hi dX6_enterCalled_16 ?_
        refine V_vlQ h (fun o20 h => ?_)
        refine V_lv (lv' := [(0, .ref (ad 1 2))]) [0] rfl ?_
        exact hj1 o20 H h
      · replace h := it_neg c19 h
        refine V_null hC dX6_enterCalled_10 ?_
        refine V_goto (tgt := 17) hC dX6_enterCalled_11 (by decide) ?_
        refine V_lv (lv' := [(0, .ref (ad 1 2))]) [0] rfl ?_
        exact hj1 none H h
theorem c_X6_enterCalled (l : Launch) {nr : Nat} {a1 : Int32} {H : Hp} {x : Unit} {H' : Hp} (h : f_X6_enterCalled nr a1 H = some (x, H')) : CU l nr yX6_enterCalled cX6_enterCalled 4 none 2 42 (fun ad => [.ref (ad 1 2), .int a1, .ref (ad 1 1)]) H x H' := by
  intro D K4 ad sz
  refine Met.ofV (by decide) (Nat.le_of_ble_eq_true rfl) ?_
  intro p e s m args below meth c hC hret hsz
  subst hsz
  exact s_X6_enterCalled hC hret h
theorem dX6_cross_0 : decode cX6_cross 0 = .ok (.iload_n 2, 1) := by decide +kernel
theorem dX6_cross_1 : decode cX6_cross 1 = .ok (.iconst (-1), 1) := by decide +kernel
theorem dX6_cross_2 : decode cX6_cross 2 = .ok (.if_icmp .eq 11, 3) := by decide +kernel
theorem dX6_cross_5 : decode cX6_cross 5 = .ok (.aload_n 0, 1) := by decide +kernel
theorem dX6_cross_6 : decode cX6_cross 6 = .ok (.getfield 56, 3) := by decide +kernel
theorem dX6_cross_9 : decode cX6_cross 9 = .ok (.iconst 1, 1) := by decide +kernel
theorem dX6_cross_10 : decode cX6_cross 10 = .ok (.if_icmp .ge 4, 3) := by decide +kernel
theorem dX6_cross_13 : decode cX6_cross 13 = .ok (.return_, 1) := by decide +kernel
theorem dX6_cross_14 : decode cX6_cross 14 = .ok (.aload_n 0, 1) := by decide +kernel
theorem dX6_cross_15 : decode cX6_cross 15 = .ok (.getfield 56, 3) := by decide +kernel
theorem dX6_cross_18 : decode cX6_cross 18 = .ok (.iconst 1, 1) := by decide +kernel
theorem dX6_cross_19 : decode cX6_cross 19 = .ok (.isub, 1) := by decide +kernel
theorem dX6_cross_20 : decode cX6_cross 20 = .ok (.istore_n 3, 1) := by decide +kernel
theorem dX6_cross_21 : decode cX6_cross 21 = .ok (.aload_n 1, 1) := by decide +kernel
theorem dX6_cross_22 : decode cX6_cross 22 = .ok (.getfield 59, 3) := by decide +kernel
theorem dX6_cross_25 : decode cX6_cross 25 = .ok (.getfield 110, 3) := by decide +kernel
theorem dX6_cross_28 : decode cX6_cross 28 = .ok (.iload_n 2, 1) := by decide +kernel
theorem dX6_cross_29 : decode cX6_cross 29 = .ok (.iaload, 1) := by decide +kernel
theorem dX6_cross_30 : decode cX6_cross 30 = .ok (.istore 4, 2) := by decide +kernel
theorem dX6_cross_32 : decode cX6_cross 32 = .ok (.aload_n 0, 1) := by decide +kernel
theorem dX6_cross_33 : decode cX6_cross 33 = .ok (.dup, 1) := by decide +kernel
theorem dX6_cross_34 : decode cX6_cross 34 = .ok (.getfield 35, 3) := by decide +kernel
theorem dX6_cross_37 : decode cX6_cross 37 = .ok (.aload_n 1, 1) := by decide +kernel
theorem dX6_cross_38 : decode cX6_cross 38 = .ok (.iload_n 2, 1) := by decide +kernel
theorem dX6_cross_39 : decode cX6_cross 39 = .ok (.invokevirtual 113, 3) := by decide +kernel
theorem dX6_cross_42 : decode cX6_cross 42 = .ok (.iadd, 1) := by decide +kernel
theorem dX6_cross_43 : decode cX6_cross 43 = .ok (.putfield 35, 3) := by decide +kernel
theorem dX6_cross_46 : decode cX6_cross 46 = .ok (.aload_n 0, 1) := by decide +kernel
theorem dX6_cross_47 : decode cX6_cross 47 = .ok (.getfield 21, 3) := by decide +kernel
theorem dX6_cross_50 : decode cX6_cross 50 = .ok (.iload_n 3, 1) := by decide +kernel
theorem dX6_cross_51 : decode cX6_cross 51 = .ok (.dup2, 1) := by decide +kernel
theorem dX6_cross_52 : decode cX6_cross 52 = .ok (.laload, 1) := by decide +kernel
theorem dX6_cross_53 : decode cX6_cross 53 = .ok (.aload_n 1, 1) := by decide +kernel
theorem dX6_cross_54 : decode cX6_cross 54 = .ok (.getfield 116, 3) := by decide +kernel
theorem dX6_cross_57 : decode cX6_cross 57 = .ok (.getfield 120, 3) := by decide +kernel
theorem dX6_cross_60 : decode cX6_cross 60 = .ok (.iload_n 2, 1) := by decide +kernel
theorem dX6_cross_61 : decode cX6_cross 61 = .ok (.laload, 1) := by decide +kernel
theorem dX6_cross_62 : decode cX6_cross 62 = .ok (.ladd, 1) := by decide +kernel
theorem dX6_cross_63 : decode cX6_cross 63 = .ok (.lastore, 1) := by decide +kernel
theorem dX6_cross_64 : decode cX6_cross 64 = .ok (.aload_n 1, 1) := by decide +kernel
theorem dX6_cross_65 : decode cX6_cross 65 = .ok (.getfield 59, 3) := by decide +kernel
theorem dX6_cross_68 : decode cX6_cross 68 = .ok (.getfield 125, 3) := by decide +kernel
theorem dX6_cross_71 : decode cX6_cross 71 = .ok (.iload_n 2, 1) := by decide +kernel
theorem dX6_cross_72 : decode cX6_cross 72 = .ok (.baload, 1) := by decide +kernel
theorem dX6_cross_73 : decode cX6_cross 73 = .ok (.ifCond .eq 32, 3) := by decide +kernel
theorem dX6_cross_76 : decode cX6_cross 76 = .ok (.aload_n 1, 1) := by decide +kernel
theorem dX6_cross_77 : decode cX6_cross 77 = .ok (.getfield 93, 3) := by decide +kernel
theorem dX6_cross_80 : decode cX6_cross 80 = .ok (.aload_n 0, 1) := by decide +kernel
theorem dX6_cross_81 : decode cX6_cross 81 = .ok (.getfield 21, 3) := by decide +kernel
theorem dX6_cross_84 : decode cX6_cross 84 = .ok (.iload_n 3, 1) := by decide +kernel
theorem dX6_cross_85 : decode cX6_cross 85 = .ok (.laload, 1) := by decide +kernel
theorem dX6_cross_86 : decode cX6_cross 86 = .ok (.invokevirtual 97, 3) := by decide +kernel
theorem dX6_cross_89 : decode cX6_cross 89 = .ok (.aload_n 0, 1) := by decide +kernel
theorem dX6_cross_90 : decode cX6_cross 90 = .ok (.getfield 21, 3) := by decide +kernel
theorem dX6_cross_93 : decode cX6_cross 93 = .ok (.iload_n 3, 1) := by decide +kernel
theorem dX6_cross_94 : decode cX6_cross 94 = .ok (.aload_n 1, 1) := by decide +kernel
theorem dX6_cross_95 : decode cX6_cross 95 = .ok (.getfield 116, 3) := by decide +kernel
theorem dX6_cross_98 : decode cX6_cross 98 = .ok (.getfield 129, 3) := by decide +kernel
theorem dX6_cross_101 : decode cX6_cross 101 = .ok (.iload 4, 2) := by decide +kernel
theorem dX6_cross_103 : decode cX6_cross 103 = .ok (.laload, 1) := by decide +kernel
theorem dX6_cross_104 : decode cX6_cross 104 = .ok (.lastore, 1) := by decide +kernel
theorem dX6_cross_105 : decode cX6_cross 105 = .ok (.aload_n 0, 1) := by decide +kernel
theorem dX6_cross_106 : decode cX6_cross 106 = .ok (.getfield 17, 3) := by decide +kernel
theorem dX6_cross_109 : decode cX6_cross 109 = .ok (.iload_n 3, 1) := by decide +kernel
theorem dX6_cross_110 : decode cX6_cross 110 = .ok (.iload 4, 2) := by decide +kernel
theorem dX6_cross_112 : decode cX6_cross 112 = .ok (.iastore, 1) := by decide +kernel
theorem dX6_cross_113 : decode cX6_cross 113 = .ok (.return_, 1) := by decide +kernel
def f_X6_cross (r : Nat) (a2 : Int32) (H : Hp) : Option (Unit × Hp) := if a2 = (-1) then some ((), H) else if 1 ≤ (gI H 1 2 3) then vl (((gI H 1 2 3) - 1)) (fun (v3 : Int32) => gd a2 61 (vl ((gI H (r + 2) 14 (Int32.toNatClampNeg a2))) (fun (v4 : Int32) => bnd (f_X2_countGone r a2 H) (fun w6 H5 => hl (sI H5 1 2 6 ((gI H 1 2 6) + w6)) (fun (H7 : Hp) => gd v3 30 (gd a2 40 (gd v3 30 (hl (sJ H7 1 6 (Int32.toNatClampNeg v3) ((gJ H7 1 6 (Int32.toNatClampNeg v3)) + (gJ H7 (r + 2) 21 (Int32.toNatClampNeg a2)))) (fun (H8 : Hp) => gd a2 40 (if (gI H8 (r + 2) 16 (Int32.toNatClampNeg a2)) = 0 then gd v3 30 (hl (sI H8 1 5 (Int32.toNatClampNeg v3) v4) (fun (H10 : Hp) => some ((), H10))) else gd v3 30 (bnd (f_X4_count r (gJ H8 1 6 (Int32.toNatClampNeg v3)) H8) (fun w12 H11 => gd v4 20 (gd v3 30 (hl (sJ H11 1 6 (Int32.toNatClampNeg v3) (gJ H11 (r + 2) 19 (Int32.toNatClampNeg v4))) (fun (H13 : Hp) => gd v3 30 (hl (sI H13 1 5 (Int32.toNatClampNeg v3) v4) (fun (H14 : Hp) => some ((), H14)))))))))))))))))) else some ((), H)
set_option maxRecDepth 100000 in
set_option maxHeartbeats 4000000 in
theorem s_X6_cross {p : Program} {l : Launch} {e : Env} {s : State} {m : MethodId} {args : Array Value} {below : List Frame} {meth : Method} {c : Code} {A : Nat → Prop} {D : va_G} {K4 : kQ} {ad : Nat → Nat → Nat} {nr : Nat} {r : Nat} {a2 : Int32} {H : Hp} {res : Unit × Hp} (hC : Cx p s m args c A s.heap D K4 5 RX6 cX6_cross) (hret : meth.sig.returnType = none ∧ meth.locks = false) (hr_r : r < nr) (h : f_X6_cross r a2 H = some res) : V p l e ({ frames := 1, cells := 0, slots := 0, locals := 23 }) s m args below meth c A s.heap (QU below args s A D K4 ad nr res) D K4 ad nr 5 0 [(0, .ref (ad 1 2)), (1, .ref (ad (r + 2) 0)), (2, .int a2)] [] H := by
  unfold f_X6_cross at h
  refine V_iload_n hC 2 dX6_cross_0 rfl ?_
  refine V_iconst (v := -1) hC dX6_cross_1 (by decide) ?_
  refine V_icmp_eq (tgt := 13) hC dX6_cross_2 (by decide) (fun c1 => ?_) (fun c1 => ?_)
  · replace h := it_pos c1 h
    exact V_vret hC hret dX6_cross_13 h
  · replace h := it_neg c1 h
    refine V_aload_n hC 0 dX6_cross_5 rfl ?_
    refine V_getI (g := 1) (k := 2) hC 6 3 fl_X6_56 rfl rfl rfl dX6_cross_6 ?_
    refine V_iconst (v := 1) hC dX6_cross_9 (by decide) ?_
    refine V_icmp_ge (tgt := 14) hC dX6_cross_10 (by decide) (fun c2 => ?_) (fun c2 => ?_)
    · replace h := it_pos c2 h
      refine V_aload_n hC 0 dX6_cross_14 rfl ?_
      refine V_getI (g := 1) (k := 2) hC 6 3 fl_X6_56 rfl rfl rfl dX6_cross_15 ?_
      refine V_iconst (v := 1) hC dX6_cross_18 (by decide) ?_
      refine V_isub hC dX6_cross_19 ?_
      refine V_vlI h (fun v3 h => ?_)
      refine V_istore_n (lv' := [(3, .int v3), (0, .ref (ad 1 2)), (1, .ref (ad (r + 2) 0)), (2, .int a2)]) hC dX6_cross_20 (Nat.le_of_ble_eq_true rfl) rfl ?_
      refine V_aload_n hC 2 dX6_cross_21 rfl ?_
      refine V_getR (g := (r + 2)) (k := 0) (g' := (r + 2)) (k' := 1) hC 2 1 fl_X6_59 (okR hr_r rfl) rfl rfl rfl dX6_cross_22 ?_
      refine V_getR (g := (r + 2)) (k := 1) (g' := (r + 2)) (k' := 14) hC 3 6 fl_X6_110 (okR hr_r rfl) rfl rfl rfl dX6_cross_25 ?_
      refine V_iload_n hC 3 dX6_cross_28 rfl ?_
      obtain ⟨hi, h⟩ := gd_some h
      refine V_iald (g := (r + 2)) (k := 14) hC (okR hr_r rfl) rfl hi dX6_cross_29 ?_
      refine V_vlI h (fun v4 h => ?_)
      refine V_istore (lv' := [(4, .int v4), (3, .int v3), (0, .ref (ad 1 2)), (1, .ref (ad (r + 2) 0)), (2, .int a2)]) hC dX6_cross_30 (Nat.le_of_ble_eq_true rfl) rfl ?_
      refine V_aload_n hC 2 dX6_cross_32 rfl ?_
      refine V_dup hC dX6_cross_33 rfl ?_
      refine V_getI (g := 1) (k := 2) hC 6 6 fl_X6_35 rfl rfl rfl dX6_cross_34 ?_
      refine V_aload_n hC 3 dX6_cross_37 rfl ?_
      refine V_iload_n hC 4 dX6_cross_38 rfl ?_
      obtain ⟨w6, H5, hc, h⟩ := bnd_some h
      refine V_calli (g := (r + 2)) (k := 0) (As := [.int a2]) (st := [.int (gI H 1 2 6), .ref (ad 1 2)]) hC (c_X2_countGone l (hr_r := hr_r) hc) rfl ml_X6_113 ⟨Nat.le_of_ble_eq_true rfl, Nat.le_of_ble_eq_true rfl⟩ (okR hr_r rfl) rfl rfl (Nat.le_of_ble_eq_true rfl) dX6_cross_39 ?_
      refine V_iadd hC dX6_cross_42 ?_
      refine V_putI (g := 1) (k := 2) hC 6 6 .int fw_X6_35 rfl rfl rfl rfl rfl dX6_cross_43 ?_
      refine V_hl h (fun H7 h => ?_)
      refine V_aload_n hC 2 dX6_cross_46 rfl ?_
      refine V_getR (g := 1) (k := 2) (g' := 1) (k' := 6) hC 6 2 fl_X6_21 rfl rfl rfl rfl dX6_cross_47 ?_
      refine V_iload_n hC 1 dX6_cross_50 rfl ?_
      refine V_dup2 hC dX6_cross_51 rfl rfl ?_
      obtain ⟨hi, h⟩ := gd_some h
      refine V_lald (g := 1) (k := 6) hC rfl rfl hi dX6_cross_52 ?_
      refine V_aload_n hC 3 dX6_cross_53 rfl ?_
      refine V_getR (g := (r + 2)) (k := 0) (g' := (r + 2)) (k' := 2) hC 2 2 fl_X6_116 (okR hr_r rfl) rfl rfl rfl dX6_cross_54 ?_
      refine V_getR (g := (r + 2)) (k := 2) (g' := (r + 2)) (k' := 21) hC 7 4 fl_X6_120 (okR hr_r rfl) rfl rfl rfl dX6_cross_57 ?_
      refine V_iload_n hC 4 dX6_cross_60 rfl ?_
      obtain ⟨hi, h⟩ := gd_some h
      refine V_lald (g := (r + 2)) (k := 21) hC (okR hr_r rfl) rfl hi dX6_cross_61 ?_
      refine V_ladd hC dX6_cross_62 ?_
      obtain ⟨hi, h⟩ := gd_some h
      refine V_last (g := 1) (k := 6) hC rfl rfl hi dX6_cross_63 ?_
      refine V_hl h (fun H8 h => ?_)
      refine V_aload_n hC 3 dX6_cross_64 rfl ?_
      refine V_getR (g := (r + 2)) (k := 0) (g' := (r + 2)) (k' := 1) hC 2 1 fl_X6_59 (okR hr_r rfl) rfl rfl rfl dX6_cross_65 ?_
      refine V_getR (g := (r + 2)) (k := 1) (g' := (r + 2)) (k' := 16) hC 3 8 fl_X6_125 (okR hr_r rfl) rfl rfl rfl dX6_cross_68 ?_
      refine V_iload_n hC 4 dX6_cross_71 rfl ?_
      obtain ⟨hi, h⟩ := gd_some h
      refine V_zald (g := (r + 2)) (k := 16) hC (okR hr_r rfl) rfl hi dX6_cross_72 ?_
      refine V_if_eq (tgt := 105) hC dX6_cross_73 (by decide) (fun c9 => ?_) (fun c9 => ?_)
      · replace h := it_pos c9 h
        refine V_aload_n hC 2 dX6_cross_105 rfl ?_
        refine V_getR (g := 1) (k := 2) (g' := 1) (k' := 5) hC 6 1 fl_X6_17 rfl rfl rfl rfl dX6_cross_106 ?_
        refine V_iload_n hC 1 dX6_cross_109 rfl ?_
        refine V_iload hC 0 dX6_cross_110 rfl ?_
        obtain ⟨hi, h⟩ := gd_some h
        refine V_iast (g := 1) (k := 5) hC rfl rfl hi dX6_cross_112 ?_
        refine V_hl h (fun H10 h => ?_)
        exact V_vret hC hret dX6_cross_113 h
      · replace h := it_neg c9 h
        refine V_aload_n hC 3 dX6_cross_76 rfl ?_
        refine V_getR (g := (r + 2)) (k := 0) (g' := (r + 2)) (k' := 5) hC 2 5 fl_X6_93 (okR hr_r rfl) rfl rfl rfl dX6_cross_77 ?_
        refine V_aload_n hC 2 dX6_cross_80 rfl ?_
        refine V_getR (g := 1) (k := 2) (g' := 1) (k' := 6) hC 6 2 fl_X6_21 rfl rfl rfl rfl dX6_cross_81 ?_
        refine V_iload_n hC 1 dX6_cross_84 rfl ?_
        obtain ⟨hi, h⟩ := gd_some h
        refine V_lald (g := 1) (k := 6) hC rfl rfl hi dX6_cross_85 ?_
        obtain ⟨w12, H11, hc, h⟩ := bnd_some h
        refine V_callu (g := (r + 2)) (k := 5) (As := [.long (gJ H8 1 6 (Int32.toNatClampNeg v3))]) (st := []) hC (c_X4_count l (hr_r := hr_r) hc) rfl ml_X6_97 ⟨Nat.le_of_ble_eq_true rfl, Nat.le_of_ble_eq_true rfl⟩ (okR hr_r rfl) rfl rfl (Nat.le_of_ble_eq_true rfl) dX6_cross_86 ?_
        refine V_aload_n hC 2 dX6_cross_89 rfl ?_
        refine V_getR (g := 1) (k := 2) (g' := 1) (k' := 6) hC 6 2 fl_X6_21 rfl rfl rfl rfl dX6_cross_90 ?_
        refine V_iload_n hC 1 dX6_cross_93 rfl ?_
        refine V_aload_n hC 3 dX6_cross_94 rfl ?_
        refine V_getR (g := (r + 2)) (k := 0) (g' := (r + 2)) (k' := 2) hC 2 2 fl_X6_116 (okR hr_r rfl) rfl rfl rfl dX6_cross_95 ?_
        refine V_getR (g := (r + 2)) (k := 2) (g' := (r + 2)) (k' := 19) hC 7 2 fl_X6_129 (okR hr_r rfl) rfl rfl rfl dX6_cross_98 ?_
        refine V_iload hC 0 dX6_cross_101 rfl ?_
        obtain ⟨hi, h⟩ := gd_some h
        refine V_lald (g := (r + 2)) (k := 19) hC (okR hr_r rfl) rfl hi dX6_cross_103 ?_
        obtain ⟨hi, h⟩ := gd_some h
        refine V_last (g := 1) (k := 6) hC rfl rfl hi dX6_cross_104 ?_
        refine V_hl h (fun H13 h => ?_)
        refine V_aload_n hC 2 dX6_cross_105 rfl ?_
        refine V_getR (g := 1) (k := 2) (g' := 1) (k' := 5) hC 6 1 fl_X6_17 rfl rfl rfl rfl dX6_cross_106 ?_
        refine V_iload_n hC 1 dX6_cross_109 rfl ?_
        refine V_iload hC 0 dX6_cross_110 rfl ?_
        obtain ⟨hi, h⟩ := gd_some h
        refine V_iast (g := 1) (k := 5) hC rfl rfl hi dX6_cross_112 ?_
        refine V_hl h (fun H14 h => ?_)
        exact V_vret hC hret dX6_cross_113 h
    · replace h := it_neg c2 h
      exact V_vret hC hret dX6_cross_13 h
theorem c_X6_cross (l : Launch) {nr : Nat} {r : Nat} (hr_r : r < nr) {a2 : Int32} {H : Hp} {x : Unit} {H' : Hp} (h : f_X6_cross r a2 H = some (x, H')) : CU l nr yX6_cross cX6_cross 5 none 1 23 (fun ad => [.ref (ad 1 2), .ref (ad (r + 2) 0), .int a2]) H x H' := by
  intro D K4 ad sz
  refine Met.ofV (by decide) (Nat.le_of_ble_eq_true rfl) ?_
  intro p e s m args below meth c hC hret hsz
  subst hsz
  exact s_X6_cross hC hret hr_r h
theorem dX6_leave_0 : decode cX6_leave 0 = .ok (.aload_n 1, 1) := by decide +kernel
theorem dX6_leave_1 : decode cX6_leave 1 = .ok (.getfield 93, 3) := by decide +kernel
theorem dX6_leave_4 : decode cX6_leave 4 = .ok (.aload_n 0, 1) := by decide +kernel
theorem dX6_leave_5 : decode cX6_leave 5 = .ok (.getfield 21, 3) := by decide +kernel
theorem dX6_leave_8 : decode cX6_leave 8 = .ok (.aload_n 0, 1) := by decide +kernel
theorem dX6_leave_9 : decode cX6_leave 9 = .ok (.getfield 56, 3) := by decide +kernel
theorem dX6_leave_12 : decode cX6_leave 12 = .ok (.iconst 1, 1) := by decide +kernel
theorem dX6_leave_13 : decode cX6_leave 13 = .ok (.isub, 1) := by decide +kernel
theorem dX6_leave_14 : decode cX6_leave 14 = .ok (.laload, 1) := by decide +kernel
theorem dX6_leave_15 : decode cX6_leave 15 = .ok (.invokevirtual 97, 3) := by decide +kernel
theorem dX6_leave_18 : decode cX6_leave 18 = .ok (.aload_n 0, 1) := by decide +kernel
theorem dX6_leave_19 : decode cX6_leave 19 = .ok (.dup, 1) := by decide +kernel
theorem dX6_leave_20 : decode cX6_leave 20 = .ok (.getfield 56, 3) := by decide +kernel
theorem dX6_leave_23 : decode cX6_leave 23 = .ok (.iconst 1, 1) := by decide +kernel
theorem dX6_leave_24 : decode cX6_leave 24 = .ok (.isub, 1) := by decide +kernel
theorem dX6_leave_25 : decode cX6_leave 25 = .ok (.putfield 56, 3) := by decide +kernel
theorem dX6_leave_28 : decode cX6_leave 28 = .ok (.aload_n 0, 1) := by decide +kernel
theorem dX6_leave_29 : decode cX6_leave 29 = .ok (.invokevirtual 52, 3) := by decide +kernel
theorem dX6_leave_32 : decode cX6_leave 32 = .ok (.astore_n 2, 1) := by decide +kernel
theorem dX6_leave_33 : decode cX6_leave 33 = .ok (.aload_n 2, 1) := by decide +kernel
theorem dX6_leave_34 : decode cX6_leave 34 = .ok (.ifnonnull 9, 3) := by decide +kernel
theorem dX6_leave_37 : decode cX6_leave 37 = .ok (.aload_n 0, 1) := by decide +kernel
theorem dX6_leave_38 : decode cX6_leave 38 = .ok (.iconst 2, 1) := by decide +kernel
theorem dX6_leave_39 : decode cX6_leave 39 = .ok (.putfield 25, 3) := by decide +kernel
theorem dX6_leave_42 : decode cX6_leave 42 = .ok (.return_, 1) := by decide +kernel
theorem dX6_leave_43 : decode cX6_leave 43 = .ok (.aload_n 0, 1) := by decide +kernel
theorem dX6_leave_44 : decode cX6_leave 44 = .ok (.aload_n 2, 1) := by decide +kernel
theorem dX6_leave_45 : decode cX6_leave 45 = .ok (.aload_n 2, 1) := by decide +kernel
theorem dX6_leave_46 : decode cX6_leave 46 = .ok (.getfield 59, 3) := by decide +kernel
theorem dX6_leave_49 : decode cX6_leave 49 = .ok (.aload_n 0, 1) := by decide +kernel
theorem dX6_leave_50 : decode cX6_leave 50 = .ok (.getfield 17, 3) := by decide +kernel
theorem dX6_leave_53 : decode cX6_leave 53 = .ok (.aload_n 0, 1) := by decide +kernel
theorem dX6_leave_54 : decode cX6_leave 54 = .ok (.getfield 56, 3) := by decide +kernel
theorem dX6_leave_57 : decode cX6_leave 57 = .ok (.iconst 1, 1) := by decide +kernel
theorem dX6_leave_58 : decode cX6_leave 58 = .ok (.isub, 1) := by decide +kernel
theorem dX6_leave_59 : decode cX6_leave 59 = .ok (.iaload, 1) := by decide +kernel
theorem dX6_leave_60 : decode cX6_leave 60 = .ok (.iconst 0, 1) := by decide +kernel
theorem dX6_leave_61 : decode cX6_leave 61 = .ok (.invokevirtual 68, 3) := by decide +kernel
theorem dX6_leave_64 : decode cX6_leave 64 = .ok (.invokevirtual 72, 3) := by decide +kernel
theorem dX6_leave_67 : decode cX6_leave 67 = .ok (.return_, 1) := by decide +kernel
def f_X6_leave (nr : Nat) (r : Nat) (H : Hp) : Option (Unit × Hp) := gd ((gI H 1 2 3) - 1) 30 (bnd (f_X4_count r (gJ H 1 6 (Int32.toNatClampNeg ((gI H 1 2 3) - 1))) H) (fun w2 H1 => hl (sI H1 1 2 3 ((gI H1 1 2 3) - 1)) (fun (H3 : Hp) => bnd (f_X6_topRoutine H3) (fun w5 H4 => nz nr w5 (hl (sI H4 1 2 4 2) (fun (H7 : Hp) => some ((), H7))) (fun r6 => gd ((gI H4 1 2 3) - 1) 30 (bnd (f_X3_outOf r6 (gI H4 1 5 (Int32.toNatClampNeg ((gI H4 1 2 3) - 1))) 0 H4) (fun w9 H8 => bnd (f_X6_cross r6 w9 H8) (fun w11 H10 => some ((), H10)))))))))
set_option maxRecDepth 100000 in
set_option maxHeartbeats 4000000 in
theorem s_X6_leave {p : Program} {l : Launch} {e : Env} {s : State} {m : MethodId} {args : Array Value} {below : List Frame} {meth : Method} {c : Code} {A : Nat → Prop} {D : va_G} {K4 : kQ} {ad : Nat → Nat → Nat} {nr : Nat} {r : Nat} {H : Hp} {res : Unit × Hp} (hC : Cx p s m args c A s.heap D K4 3 RX6 cX6_leave) (hret : meth.sig.returnType = none ∧ meth.locks = false) (hr_r : r < nr) (h : f_X6_leave nr r H = some res) : V p l e ({ frames := 2, cells := 0, slots := 0, locals := 47 }) s m args below meth c A s.heap (QU below args s A D K4 ad nr res) D K4 ad nr 3 0 [(0, .ref (ad 1 2)), (1, .ref (ad (r + 2) 0))] [] H := by
  unfold f_X6_leave at h
  refine V_aload_n hC 1 dX6_leave_0 rfl ?_
  refine V_getR (g := (r + 2)) (k := 0) (g' := (r + 2)) (k' := 5) hC 2 5 fl_X6_93 (okR hr_r rfl) rfl rfl rfl dX6_leave_1 ?_
  refine V_aload_n hC 0 dX6_leave_4 rfl ?_
  refine V_getR (g := 1) (k := 2) (g' := 1) (k' := 6) hC 6 2 fl_X6_21 rfl rfl rfl rfl dX6_leave_5 ?_
  refine V_aload_n hC 0 dX6_leave_8 rfl ?_
  refine V_getI (g := 1) (k := 2) hC 6 3 fl_X6_56 rfl rfl rfl dX6_leave_9 ?_
  refine V_iconst (v := 1) hC dX6_leave_12 (by decide) ?_
  refine V_isub hC dX6_leave_13 ?_
  obtain ⟨hi, h⟩ := gd_some h
  refine V_lald (g := 1) (k := 6) hC rfl rfl hi dX6_leave_14 ?_
  obtain ⟨w2, H1, hc, h⟩ := bnd_some h
  refine V_callu (g := (r + 2)) (k := 5) (As := [.long (gJ H 1 6 (Int32.toNatClampNeg ((gI H 1 2 3) - 1)))]) (st := []) hC (c_X4_count l (hr_r := hr_r) hc) rfl ml_X6_97 ⟨Nat.le_of_ble_eq_true rfl, Nat.le_of_ble_eq_true rfl⟩ (okR hr_r rfl) rfl rfl (Nat.le_of_ble_eq_true rfl) dX6_leave_15 ?_
  refine V_aload_n hC 0 dX6_leave_18 rfl ?_
  refine V_dup hC dX6_leave_19 rfl ?_
  refine V_getI (g := 1) (k := 2) hC 6 3 fl_X6_56 rfl rfl rfl dX6_leave_20 ?_
  refine V_iconst (v := 1) hC dX6_leave_23 (by decide) ?_
  refine V_isub hC dX6_leave_24 ?_
  refine V_putI (g := 1) (k := 2) hC 6 3 .int fw_X6_56 rfl rfl rfl rfl rfl dX6_leave_25 ?_
  refine V_hl h (fun H3 h => ?_)
  refine V_aload_n hC 0 dX6_leave_28 rfl ?_
  obtain ⟨w5, H4, hc, h⟩ := bnd_some h
  refine V_callq (g := 1) (k := 2) (As := []) (st := []) hC (c_X6_topRoutine l hc) rfl ml_X6_52 ⟨Nat.le_of_ble_eq_true rfl, Nat.le_of_ble_eq_true rfl⟩ rfl rfl rfl (Nat.le_of_ble_eq_true rfl) dX6_leave_29 ?_
  refine V_astoreq_n (lv' := [(2, vr ad w5), (0, .ref (ad 1 2)), (1, .ref (ad (r + 2) 0))]) hC dX6_leave_32 (Nat.le_of_ble_eq_true rfl) rfl ?_
  refine V_aloadq_n hC 0 dX6_leave_33 rfl ?_
  replace h := nz_some h
  rcases h with ⟨rfl, h⟩ | ⟨r6, rfl, hr_r6, h⟩
  · refine V_ifnonnullN hC dX6_leave_34 ?_
    refine V_aload_n hC 1 dX6_leave_37 rfl ?_
    refine V_iconst (v := 2) hC dX6_leave_38 (by decide) ?_
    refine V_putI (g := 1) (k := 2) hC 6 4 .int fw_X6_25 rfl rfl rfl rfl rfl dX6_leave_39 ?_
    refine V_hl h (fun H7 h => ?_)
    exact V_vret hC hret dX6_leave_42 h
  · refine V_ifnonnullS (r := r6) (tgt := 43) hC dX6_leave_34 (by decide) ?_
    refine V_aload_n hC 1 dX6_leave_43 rfl ?_
    refine V_aload_n hC 0 dX6_leave_44 rfl ?_
    refine V_aload_n hC 0 dX6_leave_45 rfl ?_
    refine V_getR (g := (r6 + 2)) (k := 0) (g' := (r6 + 2)) (k' := 1) hC 2 1 fl_X6_59 (okR hr_r6 rfl) rfl rfl rfl dX6_leave_46 ?_
    refine V_aload_n hC 1 dX6_leave_49 rfl ?_
    refine V_getR (g := 1) (k := 2) (g' := 1) (k' := 5) hC 6 1 fl_X6_17 rfl rfl rfl rfl dX6_leave_50 ?_
    refine V_aload_n hC 1 dX6_leave_53 rfl ?_
    refine V_getI (g := 1) (k := 2) hC 6 3 fl_X6_56 rfl rfl rfl dX6_leave_54 ?_
    refine V_iconst (v := 1) hC dX6_leave_57 (by decide) ?_
    refine V_isub hC dX6_leave_58 ?_
    obtain ⟨hi, h⟩ := gd_some h
    refine V_iald (g := 1) (k := 5) hC rfl rfl hi dX6_leave_59 ?_
    refine V_iconst (v := 0) hC dX6_leave_60 (by decide) ?_
    obtain ⟨w9, H8, hc, h⟩ := bnd_some h
    refine V_calli (g := (r6 + 2)) (k := 1) (As := [.int (gI H4 1 5 (Int32.toNatClampNeg ((gI H4 1 2 3) - 1))), .int 0]) (st := [.ref (ad (r6 + 2) 0), .ref (ad 1 2)]) hC (c_X3_outOf l (hr_r := hr_r6) hc) rfl ml_X6_68 ⟨Nat.le_of_ble_eq_true rfl, Nat.le_of_ble_eq_true rfl⟩ (okR hr_r6 rfl) rfl rfl (Nat.le_of_ble_eq_true rfl) dX6_leave_61 ?_
    obtain ⟨w11, H10, hc, h⟩ := bnd_some h
    refine V_callu (g := 1) (k := 2) (As := [.ref (ad (r6 + 2) 0), .int w9]) (st := []) hC (c_X6_cross l (hr_r := hr_r6) hc) rfl ml_X6_72 ⟨Nat.le_of_ble_eq_true rfl, Nat.le_of_ble_eq_true rfl⟩ rfl rfl rfl (Nat.le_of_ble_eq_true rfl) dX6_leave_64 ?_
    exact V_vret hC hret dX6_leave_67 h
theorem c_X6_leave (l : Launch) {nr : Nat} {r : Nat} (hr_r : r < nr) {H : Hp} {x : Unit} {H' : Hp} (h : f_X6_leave nr r H = some (x, H')) : CU l nr yX6_leave cX6_leave 3 none 2 47 (fun ad => [.ref (ad 1 2), .ref (ad (r + 2) 0)]) H x H' := by
  intro D K4 ad sz
  refine Met.ofV (by decide) (Nat.le_of_ble_eq_true rfl) ?_
  intro p e s m args below meth c hC hret hsz
  subst hsz
  exact s_X6_leave hC hret hr_r h
theorem dX6_step_0 : decode cX6_step 0 = .ok (.aload_n 0, 1) := by decide +kernel
theorem dX6_step_1 : decode cX6_step 1 = .ok (.invokevirtual 52, 3) := by decide +kernel
theorem dX6_step_4 : decode cX6_step 4 = .ok (.astore_n 2, 1) := by decide +kernel
theorem dX6_step_5 : decode cX6_step 5 = .ok (.aload_n 2, 1) := by decide +kernel
theorem dX6_step_6 : decode cX6_step 6 = .ok (.ifnonnull 4, 3) := by decide +kernel
theorem dX6_step_9 : decode cX6_step 9 = .ok (.return_, 1) := by decide +kernel
theorem dX6_step_10 : decode cX6_step 10 = .ok (.aload_n 0, 1) := by decide +kernel
theorem dX6_step_11 : decode cX6_step 11 = .ok (.getfield 17, 3) := by decide +kernel
theorem dX6_step_14 : decode cX6_step 14 = .ok (.aload_n 0, 1) := by decide +kernel
theorem dX6_step_15 : decode cX6_step 15 = .ok (.getfield 56, 3) := by decide +kernel
theorem dX6_step_18 : decode cX6_step 18 = .ok (.iconst 1, 1) := by decide +kernel
theorem dX6_step_19 : decode cX6_step 19 = .ok (.isub, 1) := by decide +kernel
theorem dX6_step_20 : decode cX6_step 20 = .ok (.iaload, 1) := by decide +kernel
theorem dX6_step_21 : decode cX6_step 21 = .ok (.istore_n 3, 1) := by decide +kernel
theorem dX6_step_22 : decode cX6_step 22 = .ok (.aload_n 2, 1) := by decide +kernel
theorem dX6_step_23 : decode cX6_step 23 = .ok (.getfield 59, 3) := by decide +kernel
theorem dX6_step_26 : decode cX6_step 26 = .ok (.getfield 63, 3) := by decide +kernel
theorem dX6_step_29 : decode cX6_step 29 = .ok (.iload_n 3, 1) := by decide +kernel
theorem dX6_step_30 : decode cX6_step 30 = .ok (.iaload, 1) := by decide +kernel
theorem dX6_step_31 : decode cX6_step 31 = .ok (.tableswitch 100 0 3 #[29, 46, 75, 92], 29) := by decide +kernel
theorem dX6_step_60 : decode cX6_step 60 = .ok (.aload_n 0, 1) := by decide +kernel
theorem dX6_step_61 : decode cX6_step 61 = .ok (.aload_n 2, 1) := by decide +kernel
theorem dX6_step_62 : decode cX6_step 62 = .ok (.aload_n 2, 1) := by decide +kernel
theorem dX6_step_63 : decode cX6_step 63 = .ok (.getfield 59, 3) := by decide +kernel
theorem dX6_step_66 : decode cX6_step 66 = .ok (.iload_n 3, 1) := by decide +kernel
theorem dX6_step_67 : decode cX6_step 67 = .ok (.iconst 0, 1) := by decide +kernel
theorem dX6_step_68 : decode cX6_step 68 = .ok (.invokevirtual 68, 3) := by decide +kernel
theorem dX6_step_71 : decode cX6_step 71 = .ok (.invokevirtual 72, 3) := by decide +kernel
theorem dX6_step_74 : decode cX6_step 74 = .ok (.goto 84, 3) := by decide +kernel
theorem dX6_step_77 : decode cX6_step 77 = .ok (.aload_n 0, 1) := by decide +kernel
theorem dX6_step_78 : decode cX6_step 78 = .ok (.aload_n 2, 1) := by decide +kernel
theorem dX6_step_79 : decode cX6_step 79 = .ok (.aload_n 2, 1) := by decide +kernel
theorem dX6_step_80 : decode cX6_step 80 = .ok (.getfield 59, 3) := by decide +kernel
theorem dX6_step_83 : decode cX6_step 83 = .ok (.iload_n 3, 1) := by decide +kernel
theorem dX6_step_84 : decode cX6_step 84 = .ok (.aload_n 0, 1) := by decide +kernel
theorem dX6_step_85 : decode cX6_step 85 = .ok (.aload_n 2, 1) := by decide +kernel
theorem dX6_step_86 : decode cX6_step 86 = .ok (.getfield 59, 3) := by decide +kernel
theorem dX6_step_89 : decode cX6_step 89 = .ok (.getfield 76, 3) := by decide +kernel
theorem dX6_step_92 : decode cX6_step 92 = .ok (.iload_n 3, 1) := by decide +kernel
theorem dX6_step_93 : decode cX6_step 93 = .ok (.iaload, 1) := by decide +kernel
theorem dX6_step_94 : decode cX6_step 94 = .ok (.invokevirtual 79, 3) := by decide +kernel
theorem dX6_step_97 : decode cX6_step 97 = .ok (.invokevirtual 68, 3) := by decide +kernel
theorem dX6_step_100 : decode cX6_step 100 = .ok (.invokevirtual 72, 3) := by decide +kernel
theorem dX6_step_103 : decode cX6_step 103 = .ok (.goto 55, 3) := by decide +kernel
theorem dX6_step_106 : decode cX6_step 106 = .ok (.aload_n 0, 1) := by decide +kernel
theorem dX6_step_107 : decode cX6_step 107 = .ok (.aload_n 2, 1) := by decide +kernel
theorem dX6_step_108 : decode cX6_step 108 = .ok (.getfield 59, 3) := by decide +kernel
theorem dX6_step_111 : decode cX6_step 111 = .ok (.getfield 83, 3) := by decide +kernel
theorem dX6_step_114 : decode cX6_step 114 = .ok (.iload_n 3, 1) := by decide +kernel
theorem dX6_step_115 : decode cX6_step 115 = .ok (.iaload, 1) := by decide +kernel
theorem dX6_step_116 : decode cX6_step 116 = .ok (.aload_n 1, 1) := by decide +kernel
theorem dX6_step_117 : decode cX6_step 117 = .ok (.invokevirtual 86, 3) := by decide +kernel
theorem dX6_step_120 : decode cX6_step 120 = .ok (.goto 38, 3) := by decide +kernel
theorem dX6_step_123 : decode cX6_step 123 = .ok (.aload_n 0, 1) := by decide +kernel
theorem dX6_step_124 : decode cX6_step 124 = .ok (.aload_n 2, 1) := by decide +kernel
theorem dX6_step_125 : decode cX6_step 125 = .ok (.invokevirtual 90, 3) := by decide +kernel
theorem dX6_step_128 : decode cX6_step 128 = .ok (.goto 30, 3) := by decide +kernel
theorem dX6_step_131 : decode cX6_step 131 = .ok (.aload_n 2, 1) := by decide +kernel
theorem dX6_step_132 : decode cX6_step 132 = .ok (.getfield 93, 3) := by decide +kernel
theorem dX6_step_135 : decode cX6_step 135 = .ok (.aload_n 0, 1) := by decide +kernel
theorem dX6_step_136 : decode cX6_step 136 = .ok (.getfield 21, 3) := by decide +kernel
theorem dX6_step_139 : decode cX6_step 139 = .ok (.aload_n 0, 1) := by decide +kernel
theorem dX6_step_140 : decode cX6_step 140 = .ok (.getfield 56, 3) := by decide +kernel
theorem dX6_step_143 : decode cX6_step 143 = .ok (.iconst 1, 1) := by decide +kernel
theorem dX6_step_144 : decode cX6_step 144 = .ok (.isub, 1) := by decide +kernel
theorem dX6_step_145 : decode cX6_step 145 = .ok (.laload, 1) := by decide +kernel
theorem dX6_step_146 : decode cX6_step 146 = .ok (.invokevirtual 97, 3) := by decide +kernel
theorem dX6_step_149 : decode cX6_step 149 = .ok (.aload_n 0, 1) := by decide +kernel
theorem dX6_step_150 : decode cX6_step 150 = .ok (.invokevirtual 29, 3) := by decide +kernel
theorem dX6_step_153 : decode cX6_step 153 = .ok (.aload_n 0, 1) := by decide +kernel
theorem dX6_step_154 : decode cX6_step 154 = .ok (.iconst 3, 1) := by decide +kernel
theorem dX6_step_155 : decode cX6_step 155 = .ok (.putfield 25, 3) := by decide +kernel
theorem dX6_step_158 : decode cX6_step 158 = .ok (.return_, 1) := by decide +kernel
def f_X6_step (nr : Nat) (H : Hp) : Option (Unit × Hp) := bnd (f_X6_topRoutine H) (fun w2 H1 => nz nr w2 (some ((), H1)) (fun r3 => gd ((gI H1 1 2 3) - 1) 30 (vl ((gI H1 1 5 (Int32.toNatClampNeg ((gI H1 1 2 3) - 1)))) (fun (v4 : Int32) => gd v4 20 (vl (gI H1 (r3 + 2) 8 (Int32.toNatClampNeg v4)) (fun (v5 : Int32) => if v5 = 0 then bnd (f_X3_outOf r3 v4 0 H1) (fun w26 H25 => bnd (f_X6_cross r3 w26 H25) (fun w28 H27 => some ((), H27))) else (if v5 = 1 then gd v4 20 (bnd (f_X6_choose (gI H1 (r3 + 2) 10 (Int32.toNatClampNeg v4)) H1) (fun w20 H19 => bnd (f_X3_outOf r3 v4 w20 H19) (fun w22 H21 => bnd (f_X6_cross r3 w22 H21) (fun w24 H23 => some ((), H23))))) else (if v5 = 2 then gd v4 20 (bnd (f_X6_enterCalled nr (gI H1 (r3 + 2) 9 (Int32.toNatClampNeg v4)) H1) (fun w18 H17 => some ((), H17))) else (if v5 = 3 then bnd (f_X6_leave nr r3 H1) (fun w16 H15 => some ((), H15)) else (gd ((gI H1 1 2 3) - 1) 30 (bnd (f_X4_count r3 (gJ H1 1 6 (Int32.toNatClampNeg ((gI H1 1 2 3) - 1))) H1) (fun w11 H10 => bnd (f_X6_dropFrames nr H10) (fun w13 H12 => hl (sI H12 1 2 4 3) (fun (H14 : Hp) => some ((), H14)))))))))))))))
set_option maxRecDepth 100000 in
set_option maxHeartbeats 4000000 in
theorem s_X6_step {p : Program} {l : Launch} {e : Env} {s : State} {m : MethodId} {args : Array Value} {below : List Frame} {meth : Method} {c : Code} {A : Nat → Prop} {D : va_G} {K4 : kQ} {ad : Nat → Nat → Nat} {nr : Nat} {H : Hp} {res : Unit × Hp} (hC : Cx p s m args c A s.heap D K4 4 RX6 cX6_step) (hret : meth.sig.returnType = none ∧ meth.locks = false) (h : f_X6_step nr H = some res) : V p l e ({ frames := 3, cells := 0, slots := 0, locals := 69 }) s m args below meth c A s.heap (QU below args s A D K4 ad nr res) D K4 ad nr 4 0 [(0, .ref (ad 1 2)), (1, .ref (ad 1 1))] [] H := by
  unfold f_X6_step at h
  refine V_aload_n hC 0 dX6_step_0 rfl ?_
  obtain ⟨w2, H1, hc, h⟩ := bnd_some h
  refine V_callq (g := 1) (k := 2) (As := []) (st := []) hC (c_X6_topRoutine l hc) rfl ml_X6_52 ⟨Nat.le_of_ble_eq_true rfl, Nat.le_of_ble_eq_true rfl⟩ rfl rfl rfl (Nat.le_of_ble_eq_true rfl) dX6_step_1 ?_
  refine V_astoreq_n (lv' := [(2, vr ad w2), (0, .ref (ad 1 2)), (1, .ref (ad 1 1))]) hC dX6_step_4 (Nat.le_of_ble_eq_true rfl) rfl ?_
  refine V_aloadq_n hC 0 dX6_step_5 rfl ?_
  replace h := nz_some h
  rcases h with ⟨rfl, h⟩ | ⟨r3, rfl, hr_r3, h⟩
  · refine V_ifnonnullN hC dX6_step_6 ?_
    exact V_vret hC hret dX6_step_9 h
  · refine V_ifnonnullS (r := r3) (tgt := 10) hC dX6_step_6 (by decide) ?_
    refine V_aload_n hC 1 dX6_step_10 rfl ?_
    refine V_getR (g := 1) (k := 2) (g' := 1) (k' := 5) hC 6 1 fl_X6_17 rfl rfl rfl rfl dX6_step_11 ?_
    refine V_aload_n hC 1 dX6_step_14 rfl ?_
    refine V_getI (g := 1) (k := 2) hC 6 3 fl_X6_56 rfl rfl rfl dX6_step_15 ?_
    refine V_iconst (v := 1) hC dX6_step_18 (by decide) ?_
    refine V_isub hC dX6_step_19 ?_
    obtain ⟨hi, h⟩ := gd_some h
    refine V_iald (g := 1) (k := 5) hC rfl rfl hi dX6_step_20 ?_
    refine V_vlI h (fun v4 h => ?_)
    refine V_istore_n (lv' := [(3, .int v4), (2, .ref (ad (r3 + 2) 0)), (0, .ref (ad 1 2)), (1, .ref (ad 1 1))]) hC dX6_step_21 (Nat.le_of_ble_eq_true rfl) rfl ?_
    refine V_aload_n hC 1 dX6_step_22 rfl ?_
    refine V_getR (g := (r3 + 2)) (k := 0) (g' := (r3 + 2)) (k' := 1) hC 2 1 fl_X6_59 (okR hr_r3 rfl) rfl rfl rfl dX6_step_23 ?_
    refine V_getR (g := (r3 + 2)) (k := 1) (g' := (r3 + 2)) (k' := 8) hC 3 0 fl_X6_63 (okR hr_r3 rfl) rfl rfl rfl dX6_step_26 ?_
    refine V_iload_n hC 0 dX6_step_29 rfl ?_
    obtain ⟨hi, h⟩ := gd_some h
    refine V_iald (g := (r3 + 2)) (k := 8) hC (okR hr_r3 rfl) rfl hi dX6_step_30 ?_
    refine V_vlI h (fun v5 h => ?_)
    by_cases c6 : v5 = 0
    · replace h := it_pos c6 h
      refine V_tabE c6 ?_
      refine V_tabIn (tgt := 60) hC dX6_step_31 (by decide) (by decide) rfl (by decide) ?_
      refine V_aload_n hC 2 dX6_step_60 rfl ?_
      refine V_aload_n hC 1 dX6_step_61 rfl ?_
      refine V_aload_n hC 1 dX6_step_62 rfl ?_
      refine V_getR (g := (r3 + 2)) (k := 0) (g' := (r3 + 2)) (k' := 1) hC 2 1 fl_X6_59 (okR hr_r3 rfl) rfl rfl rfl dX6_step_63 ?_
      refine V_iload_n hC 0 dX6_step_66 rfl ?_
      refine V_iconst (v := 0) hC dX6_step_67 (by decide) ?_
      obtain ⟨w26, H25, hc, h⟩ := bnd_some h
      refine V_calli (g := (r3 + 2)) (k := 1) (As := [.int v4, .int 0]) (st := [.ref (ad (r3 + 2) 0), .ref (ad 1 2)]) hC (c_X3_outOf l (hr_r := hr_r3) hc) rfl ml_X6_68 ⟨Nat.le_of_ble_eq_true rfl, Nat.le_of_ble_eq_true rfl⟩ (okR hr_r3 rfl) rfl rfl (Nat.le_of_ble_eq_true rfl) dX6_step_68 ?_
      obtain ⟨w28, H27, hc, h⟩ := bnd_some h
      refine V_callu (g := 1) (k := 2) (As := [.ref (ad (r3 + 2) 0), .int w26]) (st := []) hC (c_X6_cross l (hr_r := hr_r3) hc) rfl ml_X6_72 ⟨Nat.le_of_ble_eq_true rfl, Nat.le_of_ble_eq_true rfl⟩ rfl rfl rfl (Nat.le_of_ble_eq_true rfl) dX6_step_71 ?_
      refine V_goto (tgt := 158) hC dX6_step_74 (by decide) ?_
      exact V_vret hC hret dX6_step_158 h
    · replace h := it_neg c6 h
      by_cases c7 : v5 = 1
      · replace h := it_pos c7 h
        refine V_tabE c7 ?_
        refine V_tabIn (tgt := 77) hC dX6_step_31 (by decide) (by decide) rfl (by decide) ?_
        refine V_aload_n hC 2 dX6_step_77 rfl ?_
        refine V_aload_n hC 1 dX6_step_78 rfl ?_
        refine V_aload_n hC 1 dX6_step_79 rfl ?_
        refine V_getR (g := (r3 + 2)) (k := 0) (g' := (r3 + 2)) (k' := 1) hC 2 1 fl_X6_59 (okR hr_r3 rfl) rfl rfl rfl dX6_step_80 ?_
        refine V_iload_n hC 0 dX6_step_83 rfl ?_
        refine V_aload_n hC 2 dX6_step_84 rfl ?_
        refine V_aload_n hC 1 dX6_step_85 rfl ?_
        refine V_getR (g := (r3 + 2)) (k := 0) (g' := (r3 + 2)) (k' := 1) hC 2 1 fl_X6_59 (okR hr_r3 rfl) rfl rfl rfl dX6_step_86 ?_
        refine V_getR (g := (r3 + 2)) (k := 1) (g' := (r3 + 2)) (k' := 10) hC 3 2 fl_X6_76 (okR hr_r3 rfl) rfl rfl rfl dX6_step_89 ?_
        refine V_iload_n hC 0 dX6_step_92 rfl ?_
        obtain ⟨hi, h⟩ := gd_some h
        refine V_iald (g := (r3 + 2)) (k := 10) hC (okR hr_r3 rfl) rfl hi dX6_step_93 ?_
        obtain ⟨w20, H19, hc, h⟩ := bnd_some h
        refine V_calli (g := 1) (k := 2) (As := [.int (gI H1 (r3 + 2) 10 (Int32.toNatClampNeg v4))]) (st := [.int v4, .ref (ad (r3 + 2) 1), .ref (ad (r3 + 2) 0), .ref (ad 1 2)]) hC (c_X6_choose l hc) rfl ml_X6_79 ⟨Nat.le_of_ble_eq_true rfl, Nat.le_of_ble_eq_true rfl⟩ rfl rfl rfl (Nat.le_of_ble_eq_true rfl) dX6_step_94 ?_
        obtain ⟨w22, H21, hc, h⟩ := bnd_some h
        refine V_calli (g := (r3 + 2)) (k := 1) (As := [.int v4, .int w20]) (st := [.ref (ad (r3 + 2) 0), .ref (ad 1 2)]) hC (c_X3_outOf l (hr_r := hr_r3) hc) rfl ml_X6_68 ⟨Nat.le_of_ble_eq_true rfl, Nat.le_of_ble_eq_true rfl⟩ (okR hr_r3 rfl) rfl rfl (Nat.le_of_ble_eq_true rfl) dX6_step_97 ?_
        obtain ⟨w24, H23, hc, h⟩ := bnd_some h
        refine V_callu (g := 1) (k := 2) (As := [.ref (ad (r3 + 2) 0), .int w22]) (st := []) hC (c_X6_cross l (hr_r := hr_r3) hc) rfl ml_X6_72 ⟨Nat.le_of_ble_eq_true rfl, Nat.le_of_ble_eq_true rfl⟩ rfl rfl rfl (Nat.le_of_ble_eq_true rfl) dX6_step_100 ?_
        refine V_goto (tgt := 158) hC dX6_step_103 (by decide) ?_
        exact V_vret hC hret dX6_step_158 h
      · replace h := it_neg c7 h
        by_cases c8 : v5 = 2
        · replace h := it_pos c8 h
          refine V_tabE c8 ?_
          refine V_tabIn (tgt := 106) hC dX6_step_31 (by decide) (by decide) rfl (by decide) ?_
          refine V_aload_n hC 2 dX6_step_106 rfl ?_
          refine V_aload_n hC 1 dX6_step_107 rfl ?_
          refine V_getR (g := (r3 + 2)) (k := 0) (g' := (r3 + 2)) (k' := 1) hC 2 1 fl_X6_59 (okR hr_r3 rfl) rfl rfl rfl dX6_step_108 ?_
          refine V_getR (g := (r3 + 2)) (k := 1) (g' := (r3 + 2)) (k' := 9) hC 3 1 fl_X6_83 (okR hr_r3 rfl) rfl rfl rfl dX6_step_111 ?_
          refine V_iload_n hC 0 dX6_step_114 rfl ?_
          obtain ⟨hi, h⟩ := gd_some h
          refine V_iald (g := (r3 + 2)) (k := 9) hC (okR hr_r3 rfl) rfl hi dX6_step_115 ?_
          refine V_aload_n hC 3 dX6_step_116 rfl ?_
          obtain ⟨w18, H17, hc, h⟩ := bnd_some h
          refine V_callu (g := 1) (k := 2) (As := [.int (gI H1 (r3 + 2) 9 (Int32.toNatClampNeg v4)), .ref (ad 1 1)]) (st := []) hC (c_X6_enterCalled l hc) rfl ml_X6_86 ⟨Nat.le_of_ble_eq_true rfl, Nat.le_of_ble_eq_true rfl⟩ rfl rfl rfl (Nat.le_of_ble_eq_true rfl) dX6_step_117 ?_
          refine V_goto (tgt := 158) hC dX6_step_120 (by decide) ?_
          exact V_vret hC hret dX6_step_158 h
        · replace h := it_neg c8 h
          by_cases c9 : v5 = 3
          · replace h := it_pos c9 h
            refine V_tabE c9 ?_
            refine V_tabIn (tgt := 123) hC dX6_step_31 (by decide) (by decide) rfl (by decide) ?_
            refine V_aload_n hC 2 dX6_step_123 rfl ?_
            refine V_aload_n hC 1 dX6_step_124 rfl ?_
            obtain ⟨w16, H15, hc, h⟩ := bnd_some h
            refine V_callu (g := 1) (k := 2) (As := [.ref (ad (r3 + 2) 0)]) (st := []) hC (c_X6_leave l (hr_r := hr_r3) hc) rfl ml_X6_90 ⟨Nat.le_of_ble_eq_true rfl, Nat.le_of_ble_eq_true rfl⟩ rfl rfl rfl (Nat.le_of_ble_eq_true rfl) dX6_step_125 ?_
            refine V_goto (tgt := 158) hC dX6_step_128 (by decide) ?_
            exact V_vret hC hret dX6_step_158 h
          · replace h := it_neg c9 h
            have tc6 : Int32.toInt v5 ≠ (0 : Int) := i32ne c6
            have tc7 : Int32.toInt v5 ≠ (1 : Int) := i32ne c7
            have tc8 : Int32.toInt v5 ≠ (2 : Int) := i32ne c8
            have tc9 : Int32.toInt v5 ≠ (3 : Int) := i32ne c9
            refine V_tabOut (tgt := 131) hC dX6_step_31 (by omega) (by decide) ?_
            refine V_aload_n hC 1 dX6_step_131 rfl ?_
            refine V_getR (g := (r3 + 2)) (k := 0) (g' := (r3 + 2)) (k' := 5) hC 2 5 fl_X6_93 (okR hr_r3 rfl) rfl rfl rfl dX6_step_132 ?_
            refine V_aload_n hC 2 dX6_step_135 rfl ?_
            refine V_getR (g := 1) (k := 2) (g' := 1) (k' := 6) hC 6 2 fl_X6_21 rfl rfl rfl rfl dX6_step_136 ?_
            refine V_aload_n hC 2 dX6_step_139 rfl ?_
            refine V_getI (g := 1) (k := 2) hC 6 3 fl_X6_56 rfl rfl rfl dX6_step_140 ?_
            refine V_iconst (v := 1) hC dX6_step_143 (by decide) ?_
            refine V_isub hC dX6_step_144 ?_
            obtain ⟨hi, h⟩ := gd_some h
            refine V_lald (g := 1) (k := 6) hC rfl rfl hi dX6_step_145 ?_
            obtain ⟨w11, H10, hc, h⟩ := bnd_some h
            refine V_callu (g := (r3 + 2)) (k := 5) (As := [.long (gJ H1 1 6 (Int32.toNatClampNeg ((gI H1 1 2 3) - 1)))]) (st := []) hC (c_X4_count l (hr_r := hr_r3) hc) rfl ml_X6_97 ⟨Nat.le_of_ble_eq_true rfl, Nat.le_of_ble_eq_true rfl⟩ (okR hr_r3 rfl) rfl rfl (Nat.le_of_ble_eq_true rfl) dX6_step_146 ?_
            refine V_aload_n hC 2 dX6_step_149 rfl ?_
            obtain ⟨w13, H12, hc, h⟩ := bnd_some h
            refine V_callu (g := 1) (k := 2) (As := []) (st := []) hC (c_X6_dropFrames l hc) rfl ml_X6_29 ⟨Nat.le_of_ble_eq_true rfl, Nat.le_of_ble_eq_true rfl⟩ rfl rfl rfl (Nat.le_of_ble_eq_true rfl) dX6_step_150 ?_
            refine V_aload_n hC 2 dX6_step_153 rfl ?_
            refine V_iconst (v := 3) hC dX6_step_154 (by decide) ?_
            refine V_putI (g := 1) (k := 2) hC 6 4 .int fw_X6_25 rfl rfl rfl rfl rfl dX6_step_155 ?_
            refine V_hl h (fun H14 h => ?_)
            exact V_vret hC hret dX6_step_158 h
theorem c_X6_step (l : Launch) {nr : Nat} {H : Hp} {x : Unit} {H' : Hp} (h : f_X6_step nr H = some (x, H')) : CU l nr yX6_step cX6_step 4 none 3 69 (fun ad => [.ref (ad 1 2), .ref (ad 1 1)]) H x H' := by
  intro D K4 ad sz
  refine Met.ofV (by decide) (Nat.le_of_ble_eq_true rfl) ?_
  intro p e s m args below meth c hC hret hsz
  subst hsz
  exact s_X6_step hC hret h
theorem dX6_stepOn_0 : decode cX6_stepOn 0 = .ok (.aload_n 0, 1) := by decide +kernel
theorem dX6_stepOn_1 : decode cX6_stepOn 1 = .ok (.iload_n 2, 1) := by decide +kernel
theorem dX6_stepOn_2 : decode cX6_stepOn 2 = .ok (.putfield 42, 3) := by decide +kernel
theorem dX6_stepOn_5 : decode cX6_stepOn 5 = .ok (.aload_n 0, 1) := by decide +kernel
theorem dX6_stepOn_6 : decode cX6_stepOn 6 = .ok (.iconst 0, 1) := by decide +kernel
theorem dX6_stepOn_7 : decode cX6_stepOn 7 = .ok (.putfield 45, 3) := by decide +kernel
theorem dX6_stepOn_10 : decode cX6_stepOn 10 = .ok (.iconst 0, 1) := by decide +kernel
theorem dX6_stepOn_11 : decode cX6_stepOn 11 = .ok (.istore 4, 2) := by decide +kernel
theorem dX6_stepOn_13 : decode cX6_stepOn 13 = .ok (.iload 4, 2) := by decide +kernel
theorem dX6_stepOn_15 : decode cX6_stepOn 15 = .ok (.iload_n 1, 1) := by decide +kernel
theorem dX6_stepOn_16 : decode cX6_stepOn 16 = .ok (.if_icmp .ge 22, 3) := by decide +kernel
theorem dX6_stepOn_19 : decode cX6_stepOn 19 = .ok (.aload_n 0, 1) := by decide +kernel
theorem dX6_stepOn_20 : decode cX6_stepOn 20 = .ok (.getfield 25, 3) := by decide +kernel
theorem dX6_stepOn_23 : decode cX6_stepOn 23 = .ok (.iconst 1, 1) := by decide +kernel
theorem dX6_stepOn_24 : decode cX6_stepOn 24 = .ok (.if_icmp .ne 14, 3) := by decide +kernel
theorem dX6_stepOn_27 : decode cX6_stepOn 27 = .ok (.aload_n 0, 1) := by decide +kernel
theorem dX6_stepOn_28 : decode cX6_stepOn 28 = .ok (.aload_n 3, 1) := by decide +kernel
theorem dX6_stepOn_29 : decode cX6_stepOn 29 = .ok (.invokevirtual 48, 3) := by decide +kernel
theorem dX6_stepOn_32 : decode cX6_stepOn 32 = .ok (.iinc 4 1, 3) := by decide +kernel
theorem dX6_stepOn_35 : decode cX6_stepOn 35 = .ok (.goto (-22), 3) := by decide +kernel
theorem dX6_stepOn_38 : decode cX6_stepOn 38 = .ok (.aload_n 0, 1) := by decide +kernel
theorem dX6_stepOn_39 : decode cX6_stepOn 39 = .ok (.dup, 1) := by decide +kernel
theorem dX6_stepOn_40 : decode cX6_stepOn 40 = .ok (.getfield 32, 3) := by decide +kernel
theorem dX6_stepOn_43 : decode cX6_stepOn 43 = .ok (.iload 4, 2) := by decide +kernel
theorem dX6_stepOn_45 : decode cX6_stepOn 45 = .ok (.iadd, 1) := by decide +kernel
theorem dX6_stepOn_46 : decode cX6_stepOn 46 = .ok (.putfield 32, 3) := by decide +kernel
theorem dX6_stepOn_49 : decode cX6_stepOn 49 = .ok (.iload 4, 2) := by decide +kernel
theorem dX6_stepOn_51 : decode cX6_stepOn 51 = .ok (.ireturn, 1) := by decide +kernel
def L_X6_stepOn_13 (nr : Nat) (b1 : Int32) (k : Int32 → Hp → Option (Int32 × Hp)) : Nat → Int32 → Hp → Option (Int32 × Hp)
  | 0, _, _ => none
  | n + 1, x4, H => if b1 ≤ x4 then k x4 H else if (gI H 1 2 4) = 1 then bnd (f_X6_step nr H) (fun w6 H5 => vl (x4 + (1 : Int32)) (fun (v7 : Int32) => L_X6_stepOn_13 nr b1 k n v7 H5)) else k x4 H
set_option maxRecDepth 100000 in
set_option maxHeartbeats 4000000 in
theorem sL_X6_stepOn_13 {p : Program} {l : Launch} {e : Env} {s : State} {m : MethodId} {args : Array Value} {below : List Frame} {meth : Method} {c : Code} {A : Nat → Prop} {D : va_G} {K4 : kQ} {ad : Nat → Nat → Nat} {nr : Nat} {b1 : Int32} {k : Int32 → Hp → Option (Int32 × Hp)} {res : Int32 × Hp} (hC : Cx p s m args c A s.heap D K4 5 RX6 cX6_stepOn) (hret : meth.sig.returnType = (some .int) ∧ meth.locks = false) (hk : ∀ (z4 : Int32) (H : Hp), k z4 H = some res → V p l e ({ frames := 4, cells := 0, slots := 0, locals := 92 }) s m args below meth c A s.heap (QI below args s A D K4 ad nr res) D K4 ad nr 5 38 [(0, .ref (ad 1 2)), (4, .int z4)] [] H) : ∀ (n : Nat) (x4 : Int32) (H : Hp), L_X6_stepOn_13 nr b1 k n x4 H = some res → V p l e ({ frames := 4, cells := 0, slots := 0, locals := 92 }) s m args below meth c A s.heap (QI below args s A D K4 ad nr res) D K4 ad nr 5 13 [(0, .ref (ad 1 2)), (1, .int b1), (3, .ref (ad 1 1)), (4, .int x4)] [] H := by
  intro n
  induction n with
  | zero => intro x4 H h; exact nomatch (show (none : Option (Int32 × Hp)) = some res from h)
  | succ n ih =>
    intro x4 H h
    rw [L_X6_stepOn_13] at h
    refine V_iload hC 3 dX6_stepOn_13 rfl ?_
    refine V_iload_n hC 1 dX6_stepOn_15 rfl ?_
    refine V_icmp_ge (tgt := 38) hC dX6_stepOn_16 (by decide) (fun c3 => ?_) (fun c3 => ?_)
    · replace h := it_pos c3 h
      refine V_lv (lv' := [(0, .ref (ad 1 2)), (4, .int x4)]) [0, 3] rfl ?_
      exact hk x4 H h
    · replace h := it_neg c3 h
      refine V_aload_n hC 0 dX6_stepOn_19 rfl ?_
      refine V_getI (g := 1) (k := 2) hC 6 4 fl_X6_25 rfl rfl rfl dX6_stepOn_20 ?_
      refine V_iconst (v := 1) hC dX6_stepOn_23 (by decide) ?_
      refine V_icmp_ne (tgt := 38) hC dX6_stepOn_24 (by decide) (fun c4 => ?_) (fun c4 => ?_)
      · replace h := it_neg c4 h
        refine V_lv (lv' := [(0, .ref (ad 1 2)), (4, .int x4)]) [0, 3] rfl ?_
        exact hk x4 H h
      · replace h := it_pos c4 h
        refine V_aload_n hC 0 dX6_stepOn_27 rfl ?_
        refine V_aload_n hC 2 dX6_stepOn_28 rfl ?_
        obtain ⟨w6, H5, hc, h⟩ := bnd_some h
        refine V_callu (g := 1) (k := 2) (As := [.ref (ad 1 1)]) (st := []) hC (c_X6_step l hc) rfl ml_X6_48 ⟨Nat.le_of_ble_eq_true rfl, Nat.le_of_ble_eq_true rfl⟩ rfl rfl rfl (Nat.le_of_ble_eq_true rfl) dX6_stepOn_29 ?_
        refine V_vi h (fun v7 hvv7 h => ?_)
        refine V_iinc (v := v7) (lv' := [(4, .int v7), (0, .ref (ad 1 2)), (1, .int b1), (3, .ref (ad 1 1))]) hC 3 dX6_stepOn_32 rfl hvv7.symm (Nat.le_of_ble_eq_true rfl) rfl ?_
        refine V_goto (tgt := 13) hC dX6_stepOn_35 (by decide) ?_
        refine V_lv (lv' := [(0, .ref (ad 1 2)), (1, .int b1), (3, .ref (ad 1 1)), (4, .int v7)]) [1, 2, 3, 0] rfl ?_
        exact ih v7 H5 h
def f_X6_stepOn (nr : Nat) (a1 : Int32) (a2 : Int32) (H : Hp) : Option (Int32 × Hp) := hl (sI H 1 2 8 a2) (fun (H1 : Hp) => hl (sI H1 1 2 7 0) (fun (H2 : Hp) => L_X6_stepOn_13 nr a1 (fun (z8 : Int32) (H9 : Hp) => hl (sI H9 1 2 5 ((gI H9 1 2 5) + z8)) (fun (H10 : Hp) => some (z8, H10))) FU 0 H2))
set_option maxRecDepth 100000 in
set_option maxHeartbeats 4000000 in
theorem s_X6_stepOn {p : Program} {l : Launch} {e : Env} {s : State} {m : MethodId} {args : Array Value} {below : List Frame} {meth : Method} {c : Code} {A : Nat → Prop} {D : va_G} {K4 : kQ} {ad : Nat → Nat → Nat} {nr : Nat} {a1 : Int32} {a2 : Int32} {H : Hp} {res : Int32 × Hp} (hC : Cx p s m args c A s.heap D K4 5 RX6 cX6_stepOn) (hret : meth.sig.returnType = (some .int) ∧ meth.locks = false) (h : f_X6_stepOn nr a1 a2 H = some res) : V p l e ({ frames := 4, cells := 0, slots := 0, locals := 92 }) s m args below meth c A s.heap (QI below args s A D K4 ad nr res) D K4 ad nr 5 0 [(0, .ref (ad 1 2)), (1, .int a1), (2, .int a2), (3, .ref (ad 1 1))] [] H := by
  unfold f_X6_stepOn at h
  refine V_aload_n hC 0 dX6_stepOn_0 rfl ?_
  refine V_iload_n hC 2 dX6_stepOn_1 rfl ?_
  refine V_putI (g := 1) (k := 2) hC 6 8 .int fw_X6_42 rfl rfl rfl rfl rfl dX6_stepOn_2 ?_
  refine V_hl h (fun H1 h => ?_)
  refine V_aload_n hC 0 dX6_stepOn_5 rfl ?_
  refine V_iconst (v := 0) hC dX6_stepOn_6 (by decide) ?_
  refine V_putI (g := 1) (k := 2) hC 6 7 .int fw_X6_45 rfl rfl rfl rfl rfl dX6_stepOn_7 ?_
  refine V_hl h (fun H2 h => ?_)
  refine V_iconst (v := 0) hC dX6_stepOn_10 (by decide) ?_
  refine V_istore (lv' := [(4, .int 0), (0, .ref (ad 1 2)), (1, .int a1), (2, .int a2), (3, .ref (ad 1 1))]) hC dX6_stepOn_11 (Nat.le_of_ble_eq_true rfl) rfl ?_
  refine V_lv (lv' := [(0, .ref (ad 1 2)), (1, .int a1), (3, .ref (ad 1 1)), (4, .int 0)]) [1, 2, 4, 0] rfl ?_
  refine sL_X6_stepOn_13 hC hret (fun z8 H9 h => ?_) _ 0 H2 h
  refine V_aload_n hC 0 dX6_stepOn_38 rfl ?_
  refine V_dup hC dX6_stepOn_39 rfl ?_
  refine V_getI (g := 1) (k := 2) hC 6 5 fl_X6_32 rfl rfl rfl dX6_stepOn_40 ?_
  refine V_iload hC 1 dX6_stepOn_43 rfl ?_
  refine V_iadd hC dX6_stepOn_45 ?_
  refine V_putI (g := 1) (k := 2) hC 6 5 .int fw_X6_32 rfl rfl rfl rfl rfl dX6_stepOn_46 ?_
  refine V_hl h (fun H10 h => ?_)
  refine V_iload hC 1 dX6_stepOn_49 rfl ?_
  exact V_iret hC hret dX6_stepOn_51 h
theorem c_X6_stepOn (l : Launch) {nr : Nat} {a1 : Int32} {a2 : Int32} {H : Hp} {x : Int32} {H' : Hp} (h : f_X6_stepOn nr a1 a2 H = some (x, H')) : CI l nr yX6_stepOn cX6_stepOn 5 (some .int) 4 92 (fun ad => [.ref (ad 1 2), .int a1, .int a2, .ref (ad 1 1)]) H x H' := by
  intro D K4 ad sz
  refine Met.ofV (by decide) (Nat.le_of_ble_eq_true rfl) ?_
  intro p e s m args below meth c hC hret hsz
  subst hsz
  exact s_X6_stepOn hC hret h
theorem dX6_startIn_0 : decode cX6_startIn 0 = .ok (.aload_n 0, 1) := by decide +kernel
theorem dX6_startIn_1 : decode cX6_startIn 1 = .ok (.invokevirtual 29, 3) := by decide +kernel
theorem dX6_startIn_4 : decode cX6_startIn 4 = .ok (.aload_n 0, 1) := by decide +kernel
theorem dX6_startIn_5 : decode cX6_startIn 5 = .ok (.iconst 1, 1) := by decide +kernel
theorem dX6_startIn_6 : decode cX6_startIn 6 = .ok (.putfield 25, 3) := by decide +kernel
theorem dX6_startIn_9 : decode cX6_startIn 9 = .ok (.aload_n 0, 1) := by decide +kernel
theorem dX6_startIn_10 : decode cX6_startIn 10 = .ok (.iconst 0, 1) := by decide +kernel
theorem dX6_startIn_11 : decode cX6_startIn 11 = .ok (.putfield 32, 3) := by decide +kernel
theorem dX6_startIn_14 : decode cX6_startIn 14 = .ok (.aload_n 0, 1) := by decide +kernel
theorem dX6_startIn_15 : decode cX6_startIn 15 = .ok (.iconst 0, 1) := by decide +kernel
theorem dX6_startIn_16 : decode cX6_startIn 16 = .ok (.putfield 35, 3) := by decide +kernel
theorem dX6_startIn_19 : decode cX6_startIn 19 = .ok (.aload_n 0, 1) := by decide +kernel
theorem dX6_startIn_20 : decode cX6_startIn 20 = .ok (.aload_n 1, 1) := by decide +kernel
theorem dX6_startIn_21 : decode cX6_startIn 21 = .ok (.invokevirtual 38, 3) := by decide +kernel
theorem dX6_startIn_24 : decode cX6_startIn 24 = .ok (.return_, 1) := by decide +kernel
def f_X6_startIn (nr : Nat) (r : Nat) (H : Hp) : Option (Unit × Hp) := bnd (f_X6_dropFrames nr H) (fun w2 H1 => hl (sI H1 1 2 4 1) (fun (H3 : Hp) => hl (sI H3 1 2 5 0) (fun (H4 : Hp) => hl (sI H4 1 2 6 0) (fun (H5 : Hp) => bnd (f_X6_enter r H5) (fun w7 H6 => some ((), H6))))))
set_option maxRecDepth 100000 in
set_option maxHeartbeats 4000000 in
theorem s_X6_startIn {p : Program} {l : Launch} {e : Env} {s : State} {m : MethodId} {args : Array Value} {below : List Frame} {meth : Method} {c : Code} {A : Nat → Prop} {D : va_G} {K4 : kQ} {ad : Nat → Nat → Nat} {nr : Nat} {r : Nat} {H : Hp} {res : Unit × Hp} (hC : Cx p s m args c A s.heap D K4 2 RX6 cX6_startIn) (hret : meth.sig.returnType = none ∧ meth.locks = false) (hr_r : r < nr) (h : f_X6_startIn nr r H = some res) : V p l e ({ frames := 2, cells := 0, slots := 0, locals := 42 }) s m args below meth c A s.heap (QU below args s A D K4 ad nr res) D K4 ad nr 2 0 [(0, .ref (ad 1 2)), (1, .ref (ad (r + 2) 0))] [] H := by
  unfold f_X6_startIn at h
  refine V_aload_n hC 0 dX6_startIn_0 rfl ?_
  obtain ⟨w2, H1, hc, h⟩ := bnd_some h
  refine V_callu (g := 1) (k := 2) (As := []) (st := []) hC (c_X6_dropFrames l hc) rfl ml_X6_29 ⟨Nat.le_of_ble_eq_true rfl, Nat.le_of_ble_eq_true rfl⟩ rfl rfl rfl (Nat.le_of_ble_eq_true rfl) dX6_startIn_1 ?_
  refine V_aload_n hC 0 dX6_startIn_4 rfl ?_
  refine V_iconst (v := 1) hC dX6_startIn_5 (by decide) ?_
  refine V_putI (g := 1) (k := 2) hC 6 4 .int fw_X6_25 rfl rfl rfl rfl rfl dX6_startIn_6 ?_
  refine V_hl h (fun H3 h => ?_)
  refine V_aload_n hC 0 dX6_startIn_9 rfl ?_
  refine V_iconst (v := 0) hC dX6_startIn_10 (by decide) ?_
  refine V_putI (g := 1) (k := 2) hC 6 5 .int fw_X6_32 rfl rfl rfl rfl rfl dX6_startIn_11 ?_
  refine V_hl h (fun H4 h => ?_)
  refine V_aload_n hC 0 dX6_startIn_14 rfl ?_
  refine V_iconst (v := 0) hC dX6_startIn_15 (by decide) ?_
  refine V_putI (g := 1) (k := 2) hC 6 6 .int fw_X6_35 rfl rfl rfl rfl rfl dX6_startIn_16 ?_
  refine V_hl h (fun H5 h => ?_)
  refine V_aload_n hC 0 dX6_startIn_19 rfl ?_
  refine V_aload_n hC 1 dX6_startIn_20 rfl ?_
  obtain ⟨w7, H6, hc, h⟩ := bnd_some h
  refine V_callu (g := 1) (k := 2) (As := [.ref (ad (r + 2) 0)]) (st := []) hC (c_X6_enter l (hr_r := hr_r) hc) rfl ml_X6_38 ⟨Nat.le_of_ble_eq_true rfl, Nat.le_of_ble_eq_true rfl⟩ rfl rfl rfl (Nat.le_of_ble_eq_true rfl) dX6_startIn_21 ?_
  exact V_vret hC hret dX6_startIn_24 h
theorem c_X6_startIn (l : Launch) {nr : Nat} {r : Nat} (hr_r : r < nr) {H : Hp} {x : Unit} {H' : Hp} (h : f_X6_startIn nr r H = some (x, H')) : CU l nr yX6_startIn cX6_startIn 2 none 2 42 (fun ad => [.ref (ad 1 2), .ref (ad (r + 2) 0)]) H x H' := by
  intro D K4 ad sz
  refine Met.ofV (by decide) (Nat.le_of_ble_eq_true rfl) ?_
  intro p e s m args below meth c hC hret hsz
  subst hsz
  exact s_X6_startIn hC hret hr_r h
theorem dX6_ofRun_0 : decode cX6_ofRun 0 = .ok (.aload_n 0, 1) := by decide +kernel
theorem dX6_ofRun_1 : decode cX6_ofRun 1 = .ok (.invokevirtual 52, 3) := by decide +kernel
theorem dX6_ofRun_4 : decode cX6_ofRun 4 = .ok (.astore_n 2, 1) := by decide +kernel
theorem dX6_ofRun_5 : decode cX6_ofRun 5 = .ok (.iload_n 1, 1) := by decide +kernel
theorem dX6_ofRun_6 : decode cX6_ofRun 6 = .ok (.tableswitch 91 0 5 #[38, 43, 48, 53, 66, 86], 38) := by decide +kernel
theorem dX6_ofRun_44 : decode cX6_ofRun 44 = .ok (.aload_n 0, 1) := by decide +kernel
theorem dX6_ofRun_45 : decode cX6_ofRun 45 = .ok (.getfield 25, 3) := by decide +kernel
theorem dX6_ofRun_48 : decode cX6_ofRun 48 = .ok (.ireturn, 1) := by decide +kernel
theorem dX6_ofRun_49 : decode cX6_ofRun 49 = .ok (.aload_n 0, 1) := by decide +kernel
theorem dX6_ofRun_50 : decode cX6_ofRun 50 = .ok (.getfield 56, 3) := by decide +kernel
theorem dX6_ofRun_53 : decode cX6_ofRun 53 = .ok (.ireturn, 1) := by decide +kernel
theorem dX6_ofRun_54 : decode cX6_ofRun 54 = .ok (.aload_n 0, 1) := by decide +kernel
theorem dX6_ofRun_55 : decode cX6_ofRun 55 = .ok (.getfield 32, 3) := by decide +kernel
theorem dX6_ofRun_58 : decode cX6_ofRun 58 = .ok (.ireturn, 1) := by decide +kernel
theorem dX6_ofRun_59 : decode cX6_ofRun 59 = .ok (.aload_n 2, 1) := by decide +kernel
theorem dX6_ofRun_60 : decode cX6_ofRun 60 = .ok (.ifnonnull 7, 3) := by decide +kernel
theorem dX6_ofRun_63 : decode cX6_ofRun 63 = .ok (.iconst (-1), 1) := by decide +kernel
theorem dX6_ofRun_64 : decode cX6_ofRun 64 = .ok (.goto 7, 3) := by decide +kernel
theorem dX6_ofRun_67 : decode cX6_ofRun 67 = .ok (.aload_n 2, 1) := by decide +kernel
theorem dX6_ofRun_68 : decode cX6_ofRun 68 = .ok (.getfield 140, 3) := by decide +kernel
theorem dX6_ofRun_71 : decode cX6_ofRun 71 = .ok (.ireturn, 1) := by decide +kernel
theorem dX6_ofRun_72 : decode cX6_ofRun 72 = .ok (.aload_n 2, 1) := by decide +kernel
theorem dX6_ofRun_73 : decode cX6_ofRun 73 = .ok (.ifnonnull 7, 3) := by decide +kernel
theorem dX6_ofRun_76 : decode cX6_ofRun 76 = .ok (.iconst (-1), 1) := by decide +kernel
theorem dX6_ofRun_77 : decode cX6_ofRun 77 = .ok (.goto 14, 3) := by decide +kernel
theorem dX6_ofRun_80 : decode cX6_ofRun 80 = .ok (.aload_n 0, 1) := by decide +kernel
theorem dX6_ofRun_81 : decode cX6_ofRun 81 = .ok (.getfield 17, 3) := by decide +kernel
theorem dX6_ofRun_84 : decode cX6_ofRun 84 = .ok (.aload_n 0, 1) := by decide +kernel
theorem dX6_ofRun_85 : decode cX6_ofRun 85 = .ok (.getfield 56, 3) := by decide +kernel
theorem dX6_ofRun_88 : decode cX6_ofRun 88 = .ok (.iconst 1, 1) := by decide +kernel
theorem dX6_ofRun_89 : decode cX6_ofRun 89 = .ok (.isub, 1) := by decide +kernel
theorem dX6_ofRun_90 : decode cX6_ofRun 90 = .ok (.iaload, 1) := by decide +kernel
theorem dX6_ofRun_91 : decode cX6_ofRun 91 = .ok (.ireturn, 1) := by decide +kernel
theorem dX6_ofRun_92 : decode cX6_ofRun 92 = .ok (.aload_n 0, 1) := by decide +kernel
theorem dX6_ofRun_93 : decode cX6_ofRun 93 = .ok (.getfield 35, 3) := by decide +kernel
theorem dX6_ofRun_96 : decode cX6_ofRun 96 = .ok (.ireturn, 1) := by decide +kernel
theorem dX6_ofRun_97 : decode cX6_ofRun 97 = .ok (.iconst (-1), 1) := by decide +kernel
theorem dX6_ofRun_98 : decode cX6_ofRun 98 = .ok (.ireturn, 1) := by decide +kernel
def f_X6_ofRun (nr : Nat) (a1 : Int32) (H : Hp) : Option (Int32 × Hp) := bnd (f_X6_topRoutine H) (fun w2 H1 => if a1 = 0 then some ((gI H1 1 2 4), H1) else (if a1 = 1 then some ((gI H1 1 2 3), H1) else (if a1 = 2 then some ((gI H1 1 2 5), H1) else (if a1 = 3 then nz nr w2 (some ((-1), H1)) (fun r10 => some ((gI H1 (r10 + 2) 0 0), H1)) else (if a1 = 4 then nz nr w2 (some ((-1), H1)) (fun r9 => gd ((gI H1 1 2 3) - 1) 30 (some ((gI H1 1 5 (Int32.toNatClampNeg ((gI H1 1 2 3) - 1))), H1))) else (if a1 = 5 then some ((gI H1 1 2 6), H1) else (some ((-1), H1))))))))
set_option maxRecDepth 100000 in
set_option maxHeartbeats 4000000 in
theorem s_X6_ofRun {p : Program} {l : Launch} {e : Env} {s : State} {m : MethodId} {args : Array Value} {below : List Frame} {meth : Method} {c : Code} {A : Nat → Prop} {D : va_G} {K4 : kQ} {ad : Nat → Nat → Nat} {nr : Nat} {a1 : Int32} {H : Hp} {res : Int32 × Hp} (hC : Cx p s m args c A s.heap D K4 3 RX6 cX6_ofRun) (hret : meth.sig.returnType = (some .int) ∧ meth.locks = false) (h : f_X6_ofRun nr a1 H = some res) : V p l e ({ frames := 1, cells := 0, slots := 0, locals := 20 }) s m args below meth c A s.heap (QI below args s A D K4 ad nr res) D K4 ad nr 3 0 [(0, .ref (ad 1 2)), (1, .int a1)] [] H := by
  unfold f_X6_ofRun at h
  refine V_aload_n hC 0 dX6_ofRun_0 rfl ?_
  obtain ⟨w2, H1, hc, h⟩ := bnd_some h
  refine V_callq (g := 1) (k := 2) (As := []) (st := []) hC (c_X6_topRoutine l hc) rfl ml_X6_52 ⟨Nat.le_of_ble_eq_true rfl, Nat.le_of_ble_eq_true rfl⟩ rfl rfl rfl (Nat.le_of_ble_eq_true rfl) dX6_ofRun_1 ?_
  refine V_astoreq_n (lv' := [(2, vr ad w2), (0, .ref (ad 1 2)), (1, .int a1)]) hC dX6_ofRun_4 (Nat.le_of_ble_eq_true rfl) rfl ?_
  refine V_iload_n hC 2 dX6_ofRun_5 rfl ?_
  by_cases c3 : a1 = 0
  · replace h := it_pos c3 h
    refine V_tabE c3 ?_
    refine V_tabIn (tgt := 44) hC dX6_ofRun_6 (by decide) (by decide) rfl (by decide) ?_
    refine V_aload_n hC 1 dX6_ofRun_44 rfl ?_
    refine V_getI (g := 1) (k := 2) hC 6 4 fl_X6_25 rfl rfl rfl dX6_ofRun_45 ?_
    exact V_iret hC hret dX6_ofRun_48 h
  · replace h := it_neg c3 h
    by_cases c4 : a1 = 1
    · replace h := it_pos c4 h
      refine V_tabE c4 ?_
      refine V_tabIn (tgt := 49) hC dX6_ofRun_6 (by decide) (by decide) rfl (by decide) ?_
      refine V_aload_n hC 1 dX6_ofRun_49 rfl ?_
      refine V_getI (g := 1) (k := 2) hC 6 3 fl_X6_56 rfl rfl rfl dX6_ofRun_50 ?_
      exact V_iret hC hret dX6_ofRun_53 h
    · replace h := it_neg c4 h
      by_cases c5 : a1 = 2
      · replace h := it_pos c5 h
        refine V_tabE c5 ?_
        refine V_tabIn (tgt := 54) hC dX6_ofRun_6 (by decide) (by decide) rfl (by decide) ?_
        refine V_aload_n hC 1 dX6_ofRun_54 rfl ?_
        refine V_getI (g := 1) (k := 2) hC 6 5 fl_X6_32 rfl rfl rfl dX6_ofRun_55 ?_
        exact V_iret hC hret dX6_ofRun_58 h
      · replace h := it_neg c5 h
        by_cases c6 : a1 = 3
        · replace h := it_pos c6 h
          refine V_tabE c6 ?_
          refine V_tabIn (tgt := 59) hC dX6_ofRun_6 (by decide) (by decide) rfl (by decide) ?_
          refine V_aloadq_n hC 0 dX6_ofRun_59 rfl ?_
          replace h := nz_some h
          rcases h with ⟨rfl, h⟩ | ⟨r10, rfl, hr_r10, h⟩
          · refine V_ifnonnullN hC dX6_ofRun_60 ?_
            refine V_iconst (v := -1) hC dX6_ofRun_63 (by decide) ?_
            refine V_goto (tgt := 71) hC dX6_ofRun_64 (by decide) ?_
            exact V_iret hC hret dX6_ofRun_71 h
          · refine V_ifnonnullS (r := r10) (tgt := 67) hC dX6_ofRun_60 (by decide) ?_
            refine V_aload_n hC 0 dX6_ofRun_67 rfl ?_
            refine V_getI (g := (r10 + 2)) (k := 0) hC 2 0 fl_X6_140 (okR hr_r10 rfl) rfl rfl dX6_ofRun_68 ?_
            exact V_iret hC hret dX6_ofRun_71 h
        · replace h := it_neg c6 h
          by_cases c7 : a1 = 4
          · replace h := it_pos c7 h
            refine V_tabE c7 ?_
            refine V_tabIn (tgt := 72) hC dX6_ofRun_6 (by decide) (by decide) rfl (by decide) ?_
            refine V_aloadq_n hC 0 dX6_ofRun_72 rfl ?_
            replace h := nz_some h
            rcases h with ⟨rfl, h⟩ | ⟨r9, rfl, hr_r9, h⟩
            · refine V_ifnonnullN hC dX6_ofRun_73 ?_
              refine V_iconst (v := -1) hC dX6_ofRun_76 (by decide) ?_
              refine V_goto (tgt := 91) hC dX6_ofRun_77 (by decide) ?_
              exact V_iret hC hret dX6_ofRun_91 h
            · refine V_ifnonnullS (r := r9) (tgt := 80) hC dX6_ofRun_73 (by decide) ?_
              refine V_aload_n hC 1 dX6_ofRun_80 rfl ?_
              refine V_getR (g := 1) (k := 2) (g' := 1) (k' := 5) hC 6 1 fl_X6_17 rfl rfl rfl rfl dX6_ofRun_81 ?_
              refine V_aload_n hC 1 dX6_ofRun_84 rfl ?_
              refine V_getI (g := 1) (k := 2) hC 6 3 fl_X6_56 rfl rfl rfl dX6_ofRun_85 ?_
              refine V_iconst (v := 1) hC dX6_ofRun_88 (by decide) ?_
              refine V_isub hC dX6_ofRun_89 ?_
              obtain ⟨hi, h⟩ := gd_some h
              refine V_iald (g := 1) (k := 5) hC rfl rfl hi dX6_ofRun_90 ?_
              exact V_iret hC hret dX6_ofRun_91 h
          · replace h := it_neg c7 h
            by_cases c8 : a1 = 5
            · replace h := it_pos c8 h
              refine V_tabE c8 ?_
              refine V_tabIn (tgt := 92) hC dX6_ofRun_6 (by decide) (by decide) rfl (by decide) ?_
              refine V_aload_n hC 1 dX6_ofRun_92 rfl ?_
              refine V_getI (g := 1) (k := 2) hC 6 6 fl_X6_35 rfl rfl rfl dX6_ofRun_93 ?_
              exact V_iret hC hret dX6_ofRun_96 h
            · replace h := it_neg c8 h
              have tc3 : Int32.toInt a1 ≠ (0 : Int) := i32ne c3
              have tc4 : Int32.toInt a1 ≠ (1 : Int) := i32ne c4
              have tc5 : Int32.toInt a1 ≠ (2 : Int) := i32ne c5
              have tc6 : Int32.toInt a1 ≠ (3 : Int) := i32ne c6
              have tc7 : Int32.toInt a1 ≠ (4 : Int) := i32ne c7
              have tc8 : Int32.toInt a1 ≠ (5 : Int) := i32ne c8
              refine V_tabOut (tgt := 97) hC dX6_ofRun_6 (by omega) (by decide) ?_
              refine V_iconst (v := -1) hC dX6_ofRun_97 (by decide) ?_
              exact V_iret hC hret dX6_ofRun_98 h
theorem c_X6_ofRun (l : Launch) {nr : Nat} {a1 : Int32} {H : Hp} {x : Int32} {H' : Hp} (h : f_X6_ofRun nr a1 H = some (x, H')) : CI l nr yX6_ofRun cX6_ofRun 3 (some .int) 1 20 (fun ad => [.ref (ad 1 2), .int a1]) H x H' := by
  intro D K4 ad sz
  refine Met.ofV (by decide) (Nat.le_of_ble_eq_true rfl) ?_
  intro p e s m args below meth c hC hret hsz
  subst hsz
  exact s_X6_ofRun hC hret h
