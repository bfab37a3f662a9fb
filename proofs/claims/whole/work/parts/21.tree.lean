theorem dX5_sortByGuess_0 : decode cX5_sortByGuess 0 = .ok (.iconst 0, 1) := by decide +kernel
theorem dX5_sortByGuess_1 : decode cX5_sortByGuess 1 = .ok (.istore_n 1, 1) := by decide +kernel
theorem dX5_sortByGuess_2 : decode cX5_sortByGuess 2 = .ok (.iload_n 1, 1) := by decide +kernel
theorem dX5_sortByGuess_3 : decode cX5_sortByGuess 3 = .ok (.aload_n 0, 1) := by decide +kernel
theorem dX5_sortByGuess_4 : decode cX5_sortByGuess 4 = .ok (.getfield 38, 3) := by decide +kernel
theorem dX5_sortByGuess_7 : decode cX5_sortByGuess 7 = .ok (.getfield 51, 3) := by decide +kernel
theorem dX5_sortByGuess_10 : decode cX5_sortByGuess 10 = .ok (.if_icmp .ge 70, 3) := by decide +kernel
theorem dX5_sortByGuess_13 : decode cX5_sortByGuess 13 = .ok (.iload_n 1, 1) := by decide +kernel
theorem dX5_sortByGuess_14 : decode cX5_sortByGuess 14 = .ok (.istore_n 2, 1) := by decide +kernel
theorem dX5_sortByGuess_15 : decode cX5_sortByGuess 15 = .ok (.iload_n 2, 1) := by decide +kernel
theorem dX5_sortByGuess_16 : decode cX5_sortByGuess 16 = .ok (.ifCond .le 51, 3) := by decide +kernel
theorem dX5_sortByGuess_19 : decode cX5_sortByGuess 19 = .ok (.aload_n 0, 1) := by decide +kernel
theorem dX5_sortByGuess_20 : decode cX5_sortByGuess 20 = .ok (.getfield 38, 3) := by decide +kernel
theorem dX5_sortByGuess_23 : decode cX5_sortByGuess 23 = .ok (.getfield 57, 3) := by decide +kernel
theorem dX5_sortByGuess_26 : decode cX5_sortByGuess 26 = .ok (.aload_n 0, 1) := by decide +kernel
theorem dX5_sortByGuess_27 : decode cX5_sortByGuess 27 = .ok (.getfield 9, 3) := by decide +kernel
theorem dX5_sortByGuess_30 : decode cX5_sortByGuess 30 = .ok (.iload_n 2, 1) := by decide +kernel
theorem dX5_sortByGuess_31 : decode cX5_sortByGuess 31 = .ok (.iconst 1, 1) := by decide +kernel
theorem dX5_sortByGuess_32 : decode cX5_sortByGuess 32 = .ok (.isub, 1) := by decide +kernel
theorem dX5_sortByGuess_33 : decode cX5_sortByGuess 33 = .ok (.iaload, 1) := by decide +kernel
theorem dX5_sortByGuess_34 : decode cX5_sortByGuess 34 = .ok (.iaload, 1) := by decide +kernel
theorem dX5_sortByGuess_35 : decode cX5_sortByGuess 35 = .ok (.aload_n 0, 1) := by decide +kernel
theorem dX5_sortByGuess_36 : decode cX5_sortByGuess 36 = .ok (.getfield 38, 3) := by decide +kernel
theorem dX5_sortByGuess_39 : decode cX5_sortByGuess 39 = .ok (.getfield 57, 3) := by decide +kernel
theorem dX5_sortByGuess_42 : decode cX5_sortByGuess 42 = .ok (.iload_n 1, 1) := by decide +kernel
theorem dX5_sortByGuess_43 : decode cX5_sortByGuess 43 = .ok (.iaload, 1) := by decide +kernel
theorem dX5_sortByGuess_44 : decode cX5_sortByGuess 44 = .ok (.if_icmp .ge 23, 3) := by decide +kernel
theorem dX5_sortByGuess_47 : decode cX5_sortByGuess 47 = .ok (.aload_n 0, 1) := by decide +kernel
theorem dX5_sortByGuess_48 : decode cX5_sortByGuess 48 = .ok (.getfield 9, 3) := by decide +kernel
theorem dX5_sortByGuess_51 : decode cX5_sortByGuess 51 = .ok (.iload_n 2, 1) := by decide +kernel
theorem dX5_sortByGuess_52 : decode cX5_sortByGuess 52 = .ok (.aload_n 0, 1) := by decide +kernel
theorem dX5_sortByGuess_53 : decode cX5_sortByGuess 53 = .ok (.getfield 9, 3) := by decide +kernel
theorem dX5_sortByGuess_56 : decode cX5_sortByGuess 56 = .ok (.iload_n 2, 1) := by decide +kernel
theorem dX5_sortByGuess_57 : decode cX5_sortByGuess 57 = .ok (.iconst 1, 1) := by decide +kernel
theorem dX5_sortByGuess_58 : decode cX5_sortByGuess 58 = .ok (.isub, 1) := by decide +kernel
theorem dX5_sortByGuess_59 : decode cX5_sortByGuess 59 = .ok (.iaload, 1) := by decide +kernel
theorem dX5_sortByGuess_60 : decode cX5_sortByGuess 60 = .ok (.iastore, 1) := by decide +kernel
theorem dX5_sortByGuess_61 : decode cX5_sortByGuess 61 = .ok (.iinc 2 (-1), 3) := by decide +kernel
theorem dX5_sortByGuess_64 : decode cX5_sortByGuess 64 = .ok (.goto (-49), 3) := by decide +kernel
theorem dX5_sortByGuess_67 : decode cX5_sortByGuess 67 = .ok (.aload_n 0, 1) := by decide +kernel
theorem dX5_sortByGuess_68 : decode cX5_sortByGuess 68 = .ok (.getfield 9, 3) := by decide +kernel
theorem dX5_sortByGuess_71 : decode cX5_sortByGuess 71 = .ok (.iload_n 2, 1) := by decide +kernel
theorem dX5_sortByGuess_72 : decode cX5_sortByGuess 72 = .ok (.iload_n 1, 1) := by decide +kernel
theorem dX5_sortByGuess_73 : decode cX5_sortByGuess 73 = .ok (.iastore, 1) := by decide +kernel
theorem dX5_sortByGuess_74 : decode cX5_sortByGuess 74 = .ok (.iinc 1 1, 3) := by decide +kernel
theorem dX5_sortByGuess_77 : decode cX5_sortByGuess 77 = .ok (.goto (-75), 3) := by decide +kernel
theorem dX5_sortByGuess_80 : decode cX5_sortByGuess 80 = .ok (.return_, 1) := by decide +kernel
def L_X5_sortByGuess_15 (r : Nat) (b1 : Int32) (k : Int32 → Hp → Option (Unit × Hp)) : Nat → Int32 → Hp → Option (Unit × Hp)
  | 0, _, _ => none
  | n + 1, x2, H => if x2 ≤ 0 then k x2 H else gd (x2 - 1) 40 (gd (gI H (r + 2) 26 (Int32.toNatClampNeg (x2 - 1))) 40 (gd b1 40 (if (gI H (r + 2) 15 (Int32.toNatClampNeg b1)) ≤ (gI H (r + 2) 15 (Int32.toNatClampNeg (gI H (r + 2) 26 (Int32.toNatClampNeg (x2 - 1))))) then k x2 H else gd (x2 - 1) 40 (gd x2 40 (hl (sI H (r + 2) 26 (Int32.toNatClampNeg x2) (gI H (r + 2) 26 (Int32.toNatClampNeg (x2 - 1)))) (fun (H4 : Hp) => vl (x2 + (-1 : Int32)) (fun (v5 : Int32) => L_X5_sortByGuess_15 r b1 k n v5 H4)))))))
set_option maxRecDepth 100000 in
set_option maxHeartbeats 4000000 in
theorem sL_X5_sortByGuess_15 {p : Program} {l : Launch} {e : Env} {s : State} {m : MethodId} {args : Array Value} {below : List Frame} {meth : Method} {c : Code} {A : Nat → Prop} {D : va_G} {K4 : kQ} {ad : Nat → Nat → Nat} {nr : Nat} {r : Nat} {b1 : Int32} {k : Int32 → Hp → Option (Unit × Hp)} {res : Unit × Hp} (hC : Cx p s m args c A s.heap D K4 3 RX5 cX5_sortByGuess) (hret : meth.sig.returnType = none ∧ meth.locks = false) (hr_r : r < nr) (hk : ∀ (z2 : Int32) (H : Hp), k z2 H = some res → V p l e ({ frames := 0, cells := 0, slots := 0, locals := 0 }) s m args below meth c A s.heap (QU below args s A D K4 ad nr res) D K4 ad nr 3 67 [(0, .ref (ad (r + 2) 3)), (1, .int b1), (2, .int z2)] [] H) : ∀ (n : Nat) (x2 : Int32) (H : Hp), L_X5_sortByGuess_15 r b1 k n x2 H = some res → V p l e ({ frames := 0, cells := 0, slots := 0, locals := 0 }) s m args below meth c A s.heap (QU below args s A D K4 ad nr res) D K4 ad nr 3 15 [(0, .ref (ad (r + 2) 3)), (1, .int b1), (2, .int x2)] [] H := by
  intro n
  induction n with
  | zero => intro x2 H h; exact nomatch (show (none : Option (Unit × Hp)) = some res from h)
  | succ n ih =>
    intro x2 H h
    rw [L_X5_sortByGuess_15] at h
    refine V_iload_n hC 2 dX5_sortByGuess_15 rfl ?_
    refine V_if_le (tgt := 67) hC dX5_sortByGuess_16 (by decide) (fun c2 => ?_) (fun c2 => ?_)
    · have h := it_pos c2 h
      refine V_lv (lv' := [(0, .ref (ad (r + 2) 3)), (1, .int b1), (2, .int x2)]) [0, 1, 2] rfl ?_
      exact hk x2 H h
    · have h := it_neg c2 h
      refine V_aload_n hC 0 dX5_sortByGuess_19 rfl ?_
      refine V_getR (g := (r + 2)) (k := 3) (g' := (r + 2)) (k' := 1) hC 5 0 fl_X5_38 (okR hr_r rfl) rfl rfl rfl dX5_sortByGuess_20 ?_
      refine V_getR (g := (r + 2)) (k := 1) (g' := (r + 2)) (k' := 15) hC 3 7 fl_X5_57 (okR hr_r rfl) rfl rfl rfl dX5_sortByGuess_23 ?_
      refine V_aload_n hC 0 dX5_sortByGuess_26 rfl ?_
      refine V_getR (g := (r + 2)) (k := 3) (g' := (r + 2)) (k' := 26) hC 5 1 fl_X5_9 (okR hr_r rfl) rfl rfl rfl dX5_sortByGuess_27 ?_
      refine V_iload_n hC 2 dX5_sortByGuess_30 rfl ?_
      refine V_iconst (v := 1) hC dX5_sortByGuess_31 (by decide) ?_
      refine V_isub hC dX5_sortByGuess_32 ?_
      obtain ⟨hi, h⟩ := gd_some h
      refine V_iald (g := (r + 2)) (k := 26) hC (okR hr_r rfl) rfl hi dX5_sortByGuess_33 ?_
      obtain ⟨hi, h⟩ := gd_some h
      refine V_iald (g := (r + 2)) (k := 15) hC (okR hr_r rfl) rfl hi dX5_sortByGuess_34 ?_
      refine V_aload_n hC 0 dX5_sortByGuess_35 rfl ?_
      refine V_getR (g := (r + 2)) (k := 3) (g' := (r + 2)) (k' := 1) hC 5 0 fl_X5_38 (okR hr_r rfl) rfl rfl rfl dX5_sortByGuess_36 ?_
      refine V_getR (g := (r + 2)) (k := 1) (g' := (r + 2)) (k' := 15) hC 3 7 fl_X5_57 (okR hr_r rfl) rfl rfl rfl dX5_sortByGuess_39 ?_
      refine V_iload_n hC 1 dX5_sortByGuess_42 rfl ?_
      obtain ⟨hi, h⟩ := gd_some h
      refine V_iald (g := (r + 2)) (k := 15) hC (okR hr_r rfl) rfl hi dX5_sortByGuess_43 ?_
      refine V_icmp_ge (tgt := 67) hC dX5_sortByGuess_44 (by decide) (fun c3 => ?_) (fun c3 => ?_)
      · have h := it_pos c3 h
        refine V_lv (lv' := [(0, .ref (ad (r + 2) 3)), (1, .int b1), (2, .int x2)]) [0, 1, 2] rfl ?_
        exact hk x2 H h
      · have h := it_neg c3 h
        refine V_aload_n hC 0 dX5_sortByGuess_47 rfl ?_
        refine V_getR (g := (r + 2)) (k := 3) (g' := (r + 2)) (k' := 26) hC 5 1 fl_X5_9 (okR hr_r rfl) rfl rfl rfl dX5_sortByGuess_48 ?_
        refine V_iload_n hC 2 dX5_sortByGuess_51 rfl ?_
        refine V_aload_n hC 0 dX5_sortByGuess_52 rfl ?_
        refine V_getR (g := (r + 2)) (k := 3) (g' := (r + 2)) (k' := 26) hC 5 1 fl_X5_9 (okR hr_r rfl) rfl rfl rfl dX5_sortByGuess_53 ?_
        refine V_iload_n hC 2 dX5_sortByGuess_56 rfl ?_
        refine V_iconst (v := 1) hC dX5_sortByGuess_57 (by decide) ?_
        refine V_isub hC dX5_sortByGuess_58 ?_
        obtain ⟨hi, h⟩ := gd_some h
        refine V_iald (g := (r + 2)) (k := 26) hC (okR hr_r rfl) rfl hi dX5_sortByGuess_59 ?_
        obtain ⟨hi, h⟩ := gd_some h
        refine V_iast (g := (r + 2)) (k := 26) hC (okR hr_r rfl) rfl hi dX5_sortByGuess_60 ?_
        refine V_hl h (fun H4 h => ?_)
        refine V_vi h (fun v5 hvv5 h => ?_)
        refine V_iinc (v := v5) (lv' := [(2, .int v5), (0, .ref (ad (r + 2) 3)), (1, .int b1)]) hC 2 dX5_sortByGuess_61 rfl hvv5.symm (Nat.le_of_ble_eq_true rfl) rfl ?_
        refine V_goto (tgt := 15) hC dX5_sortByGuess_64 (by decide) ?_
        refine V_lv (lv' := [(0, .ref (ad (r + 2) 3)), (1, .int b1), (2, .int v5)]) [1, 2, 0] rfl ?_
        exact ih v5 H4 h
def L_X5_sortByGuess_2 (r : Nat) (k : Hp → Option (Unit × Hp)) : Nat → Int32 → Hp → Option (Unit × Hp)
  | 0, _, _ => none
  | n + 1, x1, H => if (gI H (r + 2) 1 11) ≤ x1 then k H else L_X5_sortByGuess_15 r x1 (fun (z6 : Int32) (H7 : Hp) => gd z6 40 (hl (sI H7 (r + 2) 26 (Int32.toNatClampNeg z6) x1) (fun (H8 : Hp) => vl (x1 + (1 : Int32)) (fun (v9 : Int32) => L_X5_sortByGuess_2 r k n v9 H8)))) FU x1 H
set_option maxRecDepth 100000 in
set_option maxHeartbeats 4000000 in
theorem sL_X5_sortByGuess_2 {p : Program} {l : Launch} {e : Env} {s : State} {m : MethodId} {args : Array Value} {below : List Frame} {meth : Method} {c : Code} {A : Nat → Prop} {D : va_G} {K4 : kQ} {ad : Nat → Nat → Nat} {nr : Nat} {r : Nat} {k : Hp → Option (Unit × Hp)} {res : Unit × Hp} (hC : Cx p s m args c A s.heap D K4 3 RX5 cX5_sortByGuess) (hret : meth.sig.returnType = none ∧ meth.locks = false) (hr_r : r < nr) (hk : ∀ (H : Hp), k H = some res → V p l e ({ frames := 0, cells := 0, slots := 0, locals := 0 }) s m args below meth c A s.heap (QU below args s A D K4 ad nr res) D K4 ad nr 3 80 [] [] H) : ∀ (n : Nat) (x1 : Int32) (H : Hp), L_X5_sortByGuess_2 r k n x1 H = some res → V p l e ({ frames := 0, cells := 0, slots := 0, locals := 0 }) s m args below meth c A s.heap (QU below args s A D K4 ad nr res) D K4 ad nr 3 2 [(0, .ref (ad (r + 2) 3)), (1, .int x1)] [] H := by
  intro n
  induction n with
  | zero => intro x1 H h; exact nomatch (show (none : Option (Unit × Hp)) = some res from h)
  | succ n ih =>
    intro x1 H h
    rw [L_X5_sortByGuess_2] at h
    refine V_iload_n hC 1 dX5_sortByGuess_2 rfl ?_
    refine V_aload_n hC 0 dX5_sortByGuess_3 rfl ?_
    refine V_getR (g := (r + 2)) (k := 3) (g' := (r + 2)) (k' := 1) hC 5 0 fl_X5_38 (okR hr_r rfl) rfl rfl rfl dX5_sortByGuess_4 ?_
    refine V_getI (g := (r + 2)) (k := 1) hC 3 11 fl_X5_51 (okR hr_r rfl) rfl rfl dX5_sortByGuess_7 ?_
    refine V_icmp_ge (tgt := 80) hC dX5_sortByGuess_10 (by decide) (fun c1 => ?_) (fun c1 => ?_)
    · have h := it_pos c1 h
      refine V_lv (lv' := []) [] rfl ?_
      exact hk H h
    · have h := it_neg c1 h
      refine V_iload_n hC 1 dX5_sortByGuess_13 rfl ?_
      refine V_istore_n (lv' := [(2, .int x1), (0, .ref (ad (r + 2) 3)), (1, .int x1)]) hC dX5_sortByGuess_14 (Nat.le_of_ble_eq_true rfl) rfl ?_
      refine V_lv (lv' := [(0, .ref (ad (r + 2) 3)), (1, .int x1), (2, .int x1)]) [1, 2, 0] rfl ?_
      refine sL_X5_sortByGuess_15 hC hret hr_r (fun z6 H7 h => ?_) _ x1 H h
      refine V_aload_n hC 0 dX5_sortByGuess_67 rfl ?_
      refine V_getR (g := (r + 2)) (k := 3) (g' := (r + 2)) (k' := 26) hC 5 1 fl_X5_9 (okR hr_r rfl) rfl rfl rfl dX5_sortByGuess_68 ?_
      refine V_iload_n hC 2 dX5_sortByGuess_71 rfl ?_
      refine V_iload_n hC 1 dX5_sortByGuess_72 rfl ?_
      obtain ⟨hi, h⟩ := gd_some h
      refine V_iast (g := (r + 2)) (k := 26) hC (okR hr_r rfl) rfl hi dX5_sortByGuess_73 ?_
      refine V_hl h (fun H8 h => ?_)
      refine V_vi h (fun v9 hvv9 h => ?_)
      refine V_iinc (v := v9) (lv' := [(1, .int v9), (0, .ref (ad (r + 2) 3)), (2, .int z6)]) hC 1 dX5_sortByGuess_74 rfl hvv9.symm (Nat.le_of_ble_eq_true rfl) rfl ?_
      refine V_goto (tgt := 2) hC dX5_sortByGuess_77 (by decide) ?_
      refine V_lv (lv' := [(0, .ref (ad (r + 2) 3)), (1, .int v9)]) [1, 0] rfl ?_
      exact ih v9 H8 h
def f_X5_sortByGuess (r : Nat) (H : Hp) : Option (Unit × Hp) := L_X5_sortByGuess_2 r (fun (H10 : Hp) => some ((), H10)) FU 0 H
set_option maxRecDepth 100000 in
set_option maxHeartbeats 4000000 in
theorem s_X5_sortByGuess {p : Program} {l : Launch} {e : Env} {s : State} {m : MethodId} {args : Array Value} {below : List Frame} {meth : Method} {c : Code} {A : Nat → Prop} {D : va_G} {K4 : kQ} {ad : Nat → Nat → Nat} {nr : Nat} {r : Nat} {H : Hp} {res : Unit × Hp} (hC : Cx p s m args c A s.heap D K4 3 RX5 cX5_sortByGuess) (hret : meth.sig.returnType = none ∧ meth.locks = false) (hr_r : r < nr) (h : f_X5_sortByGuess r H = some res) : V p l e ({ frames := 0, cells := 0, slots := 0, locals := 0 }) s m args below meth c A s.heap (QU below args s A D K4 ad nr res) D K4 ad nr 3 0 [(0, .ref (ad (r + 2) 3))] [] H := by
  unfold f_X5_sortByGuess at h
  refine V_iconst (v := 0) hC dX5_sortByGuess_0 (by decide) ?_
  refine V_istore_n (lv' := [(1, .int 0), (0, .ref (ad (r + 2) 3))]) hC dX5_sortByGuess_1 (Nat.le_of_ble_eq_true rfl) rfl ?_
  refine V_lv (lv' := [(0, .ref (ad (r + 2) 3)), (1, .int 0)]) [1, 0] rfl ?_
  refine sL_X5_sortByGuess_2 hC hret hr_r (fun H10 h => ?_) _ 0 H h
  exact V_vret hC hret dX5_sortByGuess_80 h
theorem c_X5_sortByGuess (l : Launch) {nr : Nat} {r : Nat} (hr_r : r < nr) {H : Hp} {x : Unit} {H' : Hp} (h : f_X5_sortByGuess r H = some (x, H')) : CU l nr yX5_sortByGuess cX5_sortByGuess 3 none 0 0 (fun ad => [.ref (ad (r + 2) 3)]) H x H' := by
  intro D K4 ad sz
  refine Met.ofV (by decide) (Nat.le_of_ble_eq_true rfl) ?_
  intro p e s m args below meth c hC hret hsz
  subst hsz
  exact s_X5_sortByGuess hC hret hr_r h
theorem dX5_joinParts_0 : decode cX5_joinParts 0 = .ok (.aload_n 0, 1) := by decide +kernel
theorem dX5_joinParts_1 : decode cX5_joinParts 1 = .ok (.getfield 19, 3) := by decide +kernel
theorem dX5_joinParts_4 : decode cX5_joinParts 4 = .ok (.aload_n 0, 1) := by decide +kernel
theorem dX5_joinParts_5 : decode cX5_joinParts 5 = .ok (.getfield 38, 3) := by decide +kernel
theorem dX5_joinParts_8 : decode cX5_joinParts 8 = .ok (.getfield 77, 3) := by decide +kernel
theorem dX5_joinParts_11 : decode cX5_joinParts 11 = .ok (.iload_n 1, 1) := by decide +kernel
theorem dX5_joinParts_12 : decode cX5_joinParts 12 = .ok (.iaload, 1) := by decide +kernel
theorem dX5_joinParts_13 : decode cX5_joinParts 13 = .ok (.iaload, 1) := by decide +kernel
theorem dX5_joinParts_14 : decode cX5_joinParts 14 = .ok (.istore_n 2, 1) := by decide +kernel
theorem dX5_joinParts_15 : decode cX5_joinParts 15 = .ok (.aload_n 0, 1) := by decide +kernel
theorem dX5_joinParts_16 : decode cX5_joinParts 16 = .ok (.getfield 19, 3) := by decide +kernel
theorem dX5_joinParts_19 : decode cX5_joinParts 19 = .ok (.aload_n 0, 1) := by decide +kernel
theorem dX5_joinParts_20 : decode cX5_joinParts 20 = .ok (.getfield 38, 3) := by decide +kernel
theorem dX5_joinParts_23 : decode cX5_joinParts 23 = .ok (.getfield 80, 3) := by decide +kernel
theorem dX5_joinParts_26 : decode cX5_joinParts 26 = .ok (.iload_n 1, 1) := by decide +kernel
theorem dX5_joinParts_27 : decode cX5_joinParts 27 = .ok (.iaload, 1) := by decide +kernel
theorem dX5_joinParts_28 : decode cX5_joinParts 28 = .ok (.iaload, 1) := by decide +kernel
theorem dX5_joinParts_29 : decode cX5_joinParts 29 = .ok (.istore_n 3, 1) := by decide +kernel
theorem dX5_joinParts_30 : decode cX5_joinParts 30 = .ok (.iload_n 2, 1) := by decide +kernel
theorem dX5_joinParts_31 : decode cX5_joinParts 31 = .ok (.iload_n 3, 1) := by decide +kernel
theorem dX5_joinParts_32 : decode cX5_joinParts 32 = .ok (.if_icmp .ne 5, 3) := by decide +kernel
theorem dX5_joinParts_35 : decode cX5_joinParts 35 = .ok (.iconst 0, 1) := by decide +kernel
theorem dX5_joinParts_36 : decode cX5_joinParts 36 = .ok (.ireturn, 1) := by decide +kernel
theorem dX5_joinParts_37 : decode cX5_joinParts 37 = .ok (.iconst 0, 1) := by decide +kernel
theorem dX5_joinParts_38 : decode cX5_joinParts 38 = .ok (.istore 4, 2) := by decide +kernel
theorem dX5_joinParts_40 : decode cX5_joinParts 40 = .ok (.iload 4, 2) := by decide +kernel
theorem dX5_joinParts_42 : decode cX5_joinParts 42 = .ok (.aload_n 0, 1) := by decide +kernel
theorem dX5_joinParts_43 : decode cX5_joinParts 43 = .ok (.getfield 38, 3) := by decide +kernel
theorem dX5_joinParts_46 : decode cX5_joinParts 46 = .ok (.getfield 60, 3) := by decide +kernel
theorem dX5_joinParts_49 : decode cX5_joinParts 49 = .ok (.if_icmp .gt 28, 3) := by decide +kernel
theorem dX5_joinParts_52 : decode cX5_joinParts 52 = .ok (.aload_n 0, 1) := by decide +kernel
theorem dX5_joinParts_53 : decode cX5_joinParts 53 = .ok (.getfield 19, 3) := by decide +kernel
theorem dX5_joinParts_56 : decode cX5_joinParts 56 = .ok (.iload 4, 2) := by decide +kernel
theorem dX5_joinParts_58 : decode cX5_joinParts 58 = .ok (.iaload, 1) := by decide +kernel
theorem dX5_joinParts_59 : decode cX5_joinParts 59 = .ok (.iload_n 3, 1) := by decide +kernel
theorem dX5_joinParts_60 : decode cX5_joinParts 60 = .ok (.if_icmp .ne 11, 3) := by decide +kernel
theorem dX5_joinParts_63 : decode cX5_joinParts 63 = .ok (.aload_n 0, 1) := by decide +kernel
theorem dX5_joinParts_64 : decode cX5_joinParts 64 = .ok (.getfield 19, 3) := by decide +kernel
theorem dX5_joinParts_67 : decode cX5_joinParts 67 = .ok (.iload 4, 2) := by decide +kernel
theorem dX5_joinParts_69 : decode cX5_joinParts 69 = .ok (.iload_n 2, 1) := by decide +kernel
theorem dX5_joinParts_70 : decode cX5_joinParts 70 = .ok (.iastore, 1) := by decide +kernel
theorem dX5_joinParts_71 : decode cX5_joinParts 71 = .ok (.iinc 4 1, 3) := by decide +kernel
theorem dX5_joinParts_74 : decode cX5_joinParts 74 = .ok (.goto (-34), 3) := by decide +kernel
theorem dX5_joinParts_77 : decode cX5_joinParts 77 = .ok (.iconst 1, 1) := by decide +kernel
theorem dX5_joinParts_78 : decode cX5_joinParts 78 = .ok (.ireturn, 1) := by decide +kernel
def L_X5_joinParts_40 (r : Nat) (b2 : Int32) (b3 : Int32) (k : Hp → Option (Int32 × Hp)) : Nat → Int32 → Hp → Option (Int32 × Hp)
  | 0, _, _ => none
  | n + 1, x4, H => if (gI H (r + 2) 1 10) < x4 then k H else gd x4 21 (if (gI H (r + 2) 28 (Int32.toNatClampNeg x4)) = b3 then gd x4 21 (hl (sI H (r + 2) 28 (Int32.toNatClampNeg x4) b2) (fun (H7 : Hp) => vl (x4 + (1 : Int32)) (fun (v8 : Int32) => L_X5_joinParts_40 r b2 b3 k n v8 H7))) else vl (x4 + (1 : Int32)) (fun (v6 : Int32) => L_X5_joinParts_40 r b2 b3 k n v6 H))
set_option maxRecDepth 100000 in
set_option maxHeartbeats 4000000 in
theorem sL_X5_joinParts_40 {p : Program} {l : Launch} {e : Env} {s : State} {m : MethodId} {args : Array Value} {below : List Frame} {meth : Method} {c : Code} {A : Nat → Prop} {D : va_G} {K4 : kQ} {ad : Nat → Nat → Nat} {nr : Nat} {r : Nat} {b2 : Int32} {b3 : Int32} {k : Hp → Option (Int32 × Hp)} {res : Int32 × Hp} (hC : Cx p s m args c A s.heap D K4 5 RX5 cX5_joinParts) (hret : meth.sig.returnType = (some .boolean) ∧ meth.locks = false) (hr_r : r < nr) (hk : ∀ (H : Hp), k H = some res → V p l e ({ frames := 0, cells := 0, slots := 0, locals := 0 }) s m args below meth c A s.heap (QI below args s A D K4 ad nr res) D K4 ad nr 5 77 [] [] H) : ∀ (n : Nat) (x4 : Int32) (H : Hp), L_X5_joinParts_40 r b2 b3 k n x4 H = some res → V p l e ({ frames := 0, cells := 0, slots := 0, locals := 0 }) s m args below meth c A s.heap (QI below args s A D K4 ad nr res) D K4 ad nr 5 40 [(0, .ref (ad (r + 2) 3)), (2, .int b2), (3, .int b3), (4, .int x4)] [] H := by
  intro n
  induction n with
  | zero => intro x4 H h; exact nomatch (show (none : Option (Int32 × Hp)) = some res from h)
  | succ n ih =>
    intro x4 H h
    rw [L_X5_joinParts_40] at h
    refine V_iload hC 3 dX5_joinParts_40 rfl ?_
    refine V_aload_n hC 0 dX5_joinParts_42 rfl ?_
    refine V_getR (g := (r + 2)) (k := 3) (g' := (r + 2)) (k' := 1) hC 5 0 fl_X5_38 (okR hr_r rfl) rfl rfl rfl dX5_joinParts_43 ?_
    refine V_getI (g := (r + 2)) (k := 1) hC 3 10 fl_X5_60 (okR hr_r rfl) rfl rfl dX5_joinParts_46 ?_
    refine V_icmp_gt (tgt := 77) hC dX5_joinParts_49 (by decide) (fun c4 => ?_) (fun c4 => ?_)
    · have h := it_pos c4 h
      refine V_lv (lv' := []) [] rfl ?_
      exact hk H h
    · have h := it_neg c4 h
      refine V_aload_n hC 0 dX5_joinParts_52 rfl ?_
      refine V_getR (g := (r + 2)) (k := 3) (g' := (r + 2)) (k' := 28) hC 5 3 fl_X5_19 (okR hr_r rfl) rfl rfl rfl dX5_joinParts_53 ?_
      refine V_iload hC 3 dX5_joinParts_56 rfl ?_
      obtain ⟨hi, h⟩ := gd_some h
      refine V_iald (g := (r + 2)) (k := 28) hC (okR hr_r rfl) rfl hi dX5_joinParts_58 ?_
      refine V_iload_n hC 2 dX5_joinParts_59 rfl ?_
      refine V_icmp_ne (tgt := 71) hC dX5_joinParts_60 (by decide) (fun c5 => ?_) (fun c5 => ?_)
      · have h := it_neg c5 h
        refine V_vi h (fun v6 hvv6 h => ?_)
        refine V_iinc (v := v6) (lv' := [(4, .int v6), (0, .ref (ad (r + 2) 3)), (2, .int b2), (3, .int b3)]) hC 3 dX5_joinParts_71 rfl hvv6.symm (Nat.le_of_ble_eq_true rfl) rfl ?_
        refine V_goto (tgt := 40) hC dX5_joinParts_74 (by decide) ?_
        refine V_lv (lv' := [(0, .ref (ad (r + 2) 3)), (2, .int b2), (3, .int b3), (4, .int v6)]) [1, 2, 3, 0] rfl ?_
        exact ih v6 H h
      · have h := it_pos c5 h
        refine V_aload_n hC 0 dX5_joinParts_63 rfl ?_
        refine V_getR (g := (r + 2)) (k := 3) (g' := (r + 2)) (k' := 28) hC 5 3 fl_X5_19 (okR hr_r rfl) rfl rfl rfl dX5_joinParts_64 ?_
        refine V_iload hC 3 dX5_joinParts_67 rfl ?_
        refine V_iload_n hC 1 dX5_joinParts_69 rfl ?_
        obtain ⟨hi, h⟩ := gd_some h
        refine V_iast (g := (r + 2)) (k := 28) hC (okR hr_r rfl) rfl hi dX5_joinParts_70 ?_
        refine V_hl h (fun H7 h => ?_)
        refine V_vi h (fun v8 hvv8 h => ?_)
        refine V_iinc (v := v8) (lv' := [(4, .int v8), (0, .ref (ad (r + 2) 3)), (2, .int b2), (3, .int b3)]) hC 3 dX5_joinParts_71 rfl hvv8.symm (Nat.le_of_ble_eq_true rfl) rfl ?_
        refine V_goto (tgt := 40) hC dX5_joinParts_74 (by decide) ?_
        refine V_lv (lv' := [(0, .ref (ad (r + 2) 3)), (2, .int b2), (3, .int b3), (4, .int v8)]) [1, 2, 3, 0] rfl ?_
        exact ih v8 H7 h
def f_X5_joinParts (r : Nat) (a1 : Int32) (H : Hp) : Option (Int32 × Hp) := gd a1 61 (gd (gI H (r + 2) 13 (Int32.toNatClampNeg a1)) 21 (vl ((gI H (r + 2) 28 (Int32.toNatClampNeg (gI H (r + 2) 13 (Int32.toNatClampNeg a1))))) (fun (v1 : Int32) => gd a1 61 (gd (gI H (r + 2) 14 (Int32.toNatClampNeg a1)) 21 (vl ((gI H (r + 2) 28 (Int32.toNatClampNeg (gI H (r + 2) 14 (Int32.toNatClampNeg a1))))) (fun (v2 : Int32) => if v1 = v2 then some (0, H) else L_X5_joinParts_40 r v1 v2 (fun (H9 : Hp) => some (1, H9)) FU 0 H))))))
set_option maxRecDepth 100000 in
set_option maxHeartbeats 4000000 in
theorem s_X5_joinParts {p : Program} {l : Launch} {e : Env} {s : State} {m : MethodId} {args : Array Value} {below : List Frame} {meth : Method} {c : Code} {A : Nat → Prop} {D : va_G} {K4 : kQ} {ad : Nat → Nat → Nat} {nr : Nat} {r : Nat} {a1 : Int32} {H : Hp} {res : Int32 × Hp} (hC : Cx p s m args c A s.heap D K4 5 RX5 cX5_joinParts) (hret : meth.sig.returnType = (some .boolean) ∧ meth.locks = false) (hr_r : r < nr) (h : f_X5_joinParts r a1 H = some res) : V p l e ({ frames := 0, cells := 0, slots := 0, locals := 0 }) s m args below meth c A s.heap (QI below args s A D K4 ad nr res) D K4 ad nr 5 0 [(0, .ref (ad (r + 2) 3)), (1, .int a1)] [] H := by
  unfold f_X5_joinParts at h
  refine V_aload_n hC 0 dX5_joinParts_0 rfl ?_
  refine V_getR (g := (r + 2)) (k := 3) (g' := (r + 2)) (k' := 28) hC 5 3 fl_X5_19 (okR hr_r rfl) rfl rfl rfl dX5_joinParts_1 ?_
  refine V_aload_n hC 0 dX5_joinParts_4 rfl ?_
  refine V_getR (g := (r + 2)) (k := 3) (g' := (r + 2)) (k' := 1) hC 5 0 fl_X5_38 (okR hr_r rfl) rfl rfl rfl dX5_joinParts_5 ?_
  refine V_getR (g := (r + 2)) (k := 1) (g' := (r + 2)) (k' := 13) hC 3 5 fl_X5_77 (okR hr_r rfl) rfl rfl rfl dX5_joinParts_8 ?_
  refine V_iload_n hC 1 dX5_joinParts_11 rfl ?_
  obtain ⟨hi, h⟩ := gd_some h
  refine V_iald (g := (r + 2)) (k := 13) hC (okR hr_r rfl) rfl hi dX5_joinParts_12 ?_
  obtain ⟨hi, h⟩ := gd_some h
  refine V_iald (g := (r + 2)) (k := 28) hC (okR hr_r rfl) rfl hi dX5_joinParts_13 ?_
  refine V_vlI h (fun v1 h => ?_)
  refine V_istore_n (lv' := [(2, .int v1), (0, .ref (ad (r + 2) 3)), (1, .int a1)]) hC dX5_joinParts_14 (Nat.le_of_ble_eq_true rfl) rfl ?_
  refine V_aload_n hC 1 dX5_joinParts_15 rfl ?_
  refine V_getR (g := (r + 2)) (k := 3) (g' := (r + 2)) (k' := 28) hC 5 3 fl_X5_19 (okR hr_r rfl) rfl rfl rfl dX5_joinParts_16 ?_
  refine V_aload_n hC 1 dX5_joinParts_19 rfl ?_
  refine V_getR (g := (r + 2)) (k := 3) (g' := (r + 2)) (k' := 1) hC 5 0 fl_X5_38 (okR hr_r rfl) rfl rfl rfl dX5_joinParts_20 ?_
  refine V_getR (g := (r + 2)) (k := 1) (g' := (r + 2)) (k' := 14) hC 3 6 fl_X5_80 (okR hr_r rfl) rfl rfl rfl dX5_joinParts_23 ?_
  refine V_iload_n hC 2 dX5_joinParts_26 rfl ?_
  obtain ⟨hi, h⟩ := gd_some h
  refine V_iald (g := (r + 2)) (k := 14) hC (okR hr_r rfl) rfl hi dX5_joinParts_27 ?_
  obtain ⟨hi, h⟩ := gd_some h
  refine V_iald (g := (r + 2)) (k := 28) hC (okR hr_r rfl) rfl hi dX5_joinParts_28 ?_
  refine V_vlI h (fun v2 h => ?_)
  refine V_istore_n (lv' := [(3, .int v2), (2, .int v1), (0, .ref (ad (r + 2) 3)), (1, .int a1)]) hC dX5_joinParts_29 (Nat.le_of_ble_eq_true rfl) rfl ?_
  refine V_iload_n hC 1 dX5_joinParts_30 rfl ?_
  refine V_iload_n hC 0 dX5_joinParts_31 rfl ?_
  refine V_icmp_ne (tgt := 37) hC dX5_joinParts_32 (by decide) (fun c3 => ?_) (fun c3 => ?_)
  · have h := it_neg c3 h
    refine V_iconst (v := 0) hC dX5_joinParts_37 (by decide) ?_
    refine V_istore (lv' := [(4, .int 0), (3, .int v2), (2, .int v1), (0, .ref (ad (r + 2) 3)), (1, .int a1)]) hC dX5_joinParts_38 (Nat.le_of_ble_eq_true rfl) rfl ?_
    refine V_lv (lv' := [(0, .ref (ad (r + 2) 3)), (2, .int v1), (3, .int v2), (4, .int 0)]) [3, 2, 1, 0] rfl ?_
    refine sL_X5_joinParts_40 hC hret hr_r (fun H9 h => ?_) _ 0 H h
    refine V_iconst (v := 1) hC dX5_joinParts_77 (by decide) ?_
    exact V_zret hC hret (by decide) dX5_joinParts_78 h
  · have h := it_pos c3 h
    refine V_iconst (v := 0) hC dX5_joinParts_35 (by decide) ?_
    exact V_zret hC hret (by decide) dX5_joinParts_36 h
theorem c_X5_joinParts (l : Launch) {nr : Nat} {r : Nat} (hr_r : r < nr) {a1 : Int32} {H : Hp} {x : Int32} {H' : Hp} (h : f_X5_joinParts r a1 H = some (x, H')) : CI l nr yX5_joinParts cX5_joinParts 5 (some .boolean) 0 0 (fun ad => [.ref (ad (r + 2) 3), .int a1]) H x H' := by
  intro D K4 ad sz
  refine Met.ofV (by decide) (Nat.le_of_ble_eq_true rfl) ?_
  intro p e s m args below meth c hC hret hsz
  subst hsz
  exact s_X5_joinParts hC hret hr_r h
theorem dX5_takeLinks_0 : decode cX5_takeLinks 0 = .ok (.iconst 0, 1) := by decide +kernel
theorem dX5_takeLinks_1 : decode cX5_takeLinks 1 = .ok (.istore_n 1, 1) := by decide +kernel
theorem dX5_takeLinks_2 : decode cX5_takeLinks 2 = .ok (.iload_n 1, 1) := by decide +kernel
theorem dX5_takeLinks_3 : decode cX5_takeLinks 3 = .ok (.aload_n 0, 1) := by decide +kernel
theorem dX5_takeLinks_4 : decode cX5_takeLinks 4 = .ok (.getfield 38, 3) := by decide +kernel
theorem dX5_takeLinks_7 : decode cX5_takeLinks 7 = .ok (.getfield 60, 3) := by decide +kernel
theorem dX5_takeLinks_10 : decode cX5_takeLinks 10 = .ok (.if_icmp .gt 16, 3) := by decide +kernel
theorem dX5_takeLinks_13 : decode cX5_takeLinks 13 = .ok (.aload_n 0, 1) := by decide +kernel
theorem dX5_takeLinks_14 : decode cX5_takeLinks 14 = .ok (.getfield 19, 3) := by decide +kernel
theorem dX5_takeLinks_17 : decode cX5_takeLinks 17 = .ok (.iload_n 1, 1) := by decide +kernel
theorem dX5_takeLinks_18 : decode cX5_takeLinks 18 = .ok (.iload_n 1, 1) := by decide +kernel
theorem dX5_takeLinks_19 : decode cX5_takeLinks 19 = .ok (.iastore, 1) := by decide +kernel
theorem dX5_takeLinks_20 : decode cX5_takeLinks 20 = .ok (.iinc 1 1, 3) := by decide +kernel
theorem dX5_takeLinks_23 : decode cX5_takeLinks 23 = .ok (.goto (-21), 3) := by decide +kernel
theorem dX5_takeLinks_26 : decode cX5_takeLinks 26 = .ok (.aload_n 0, 1) := by decide +kernel
theorem dX5_takeLinks_27 : decode cX5_takeLinks 27 = .ok (.getfield 38, 3) := by decide +kernel
theorem dX5_takeLinks_30 : decode cX5_takeLinks 30 = .ok (.getfield 51, 3) := by decide +kernel
theorem dX5_takeLinks_33 : decode cX5_takeLinks 33 = .ok (.istore_n 1, 1) := by decide +kernel
theorem dX5_takeLinks_34 : decode cX5_takeLinks 34 = .ok (.iload_n 1, 1) := by decide +kernel
theorem dX5_takeLinks_35 : decode cX5_takeLinks 35 = .ok (.aload_n 0, 1) := by decide +kernel
theorem dX5_takeLinks_36 : decode cX5_takeLinks 36 = .ok (.getfield 38, 3) := by decide +kernel
theorem dX5_takeLinks_39 : decode cX5_takeLinks 39 = .ok (.getfield 63, 3) := by decide +kernel
theorem dX5_takeLinks_42 : decode cX5_takeLinks 42 = .ok (.if_icmp .ge 22, 3) := by decide +kernel
theorem dX5_takeLinks_45 : decode cX5_takeLinks 45 = .ok (.aload_n 0, 1) := by decide +kernel
theorem dX5_takeLinks_46 : decode cX5_takeLinks 46 = .ok (.iload_n 1, 1) := by decide +kernel
theorem dX5_takeLinks_47 : decode cX5_takeLinks 47 = .ok (.invokevirtual 66, 3) := by decide +kernel
theorem dX5_takeLinks_50 : decode cX5_takeLinks 50 = .ok (.pop, 1) := by decide +kernel
theorem dX5_takeLinks_51 : decode cX5_takeLinks 51 = .ok (.aload_n 0, 1) := by decide +kernel
theorem dX5_takeLinks_52 : decode cX5_takeLinks 52 = .ok (.getfield 15, 3) := by decide +kernel
theorem dX5_takeLinks_55 : decode cX5_takeLinks 55 = .ok (.iload_n 1, 1) := by decide +kernel
theorem dX5_takeLinks_56 : decode cX5_takeLinks 56 = .ok (.iconst 1, 1) := by decide +kernel
theorem dX5_takeLinks_57 : decode cX5_takeLinks 57 = .ok (.bastore, 1) := by decide +kernel
theorem dX5_takeLinks_58 : decode cX5_takeLinks 58 = .ok (.iinc 1 1, 3) := by decide +kernel
theorem dX5_takeLinks_61 : decode cX5_takeLinks 61 = .ok (.goto (-27), 3) := by decide +kernel
theorem dX5_takeLinks_64 : decode cX5_takeLinks 64 = .ok (.aload_n 0, 1) := by decide +kernel
theorem dX5_takeLinks_65 : decode cX5_takeLinks 65 = .ok (.iconst 0, 1) := by decide +kernel
theorem dX5_takeLinks_66 : decode cX5_takeLinks 66 = .ok (.putfield 70, 3) := by decide +kernel
theorem dX5_takeLinks_69 : decode cX5_takeLinks 69 = .ok (.aload_n 0, 1) := by decide +kernel
theorem dX5_takeLinks_70 : decode cX5_takeLinks 70 = .ok (.lconst 0, 1) := by decide +kernel
theorem dX5_takeLinks_71 : decode cX5_takeLinks 71 = .ok (.putfield 73, 3) := by decide +kernel
theorem dX5_takeLinks_74 : decode cX5_takeLinks 74 = .ok (.iconst 0, 1) := by decide +kernel
theorem dX5_takeLinks_75 : decode cX5_takeLinks 75 = .ok (.istore_n 1, 1) := by decide +kernel
theorem dX5_takeLinks_76 : decode cX5_takeLinks 76 = .ok (.iload_n 1, 1) := by decide +kernel
theorem dX5_takeLinks_77 : decode cX5_takeLinks 77 = .ok (.aload_n 0, 1) := by decide +kernel
theorem dX5_takeLinks_78 : decode cX5_takeLinks 78 = .ok (.getfield 38, 3) := by decide +kernel
theorem dX5_takeLinks_81 : decode cX5_takeLinks 81 = .ok (.getfield 51, 3) := by decide +kernel
theorem dX5_takeLinks_84 : decode cX5_takeLinks 84 = .ok (.if_icmp .ge 65, 3) := by decide +kernel
theorem dX5_takeLinks_87 : decode cX5_takeLinks 87 = .ok (.aload_n 0, 1) := by decide +kernel
theorem dX5_takeLinks_88 : decode cX5_takeLinks 88 = .ok (.getfield 9, 3) := by decide +kernel
theorem dX5_takeLinks_91 : decode cX5_takeLinks 91 = .ok (.iload_n 1, 1) := by decide +kernel
theorem dX5_takeLinks_92 : decode cX5_takeLinks 92 = .ok (.iaload, 1) := by decide +kernel
theorem dX5_takeLinks_93 : decode cX5_takeLinks 93 = .ok (.istore_n 2, 1) := by decide +kernel
theorem dX5_takeLinks_94 : decode cX5_takeLinks 94 = .ok (.aload_n 0, 1) := by decide +kernel
theorem dX5_takeLinks_95 : decode cX5_takeLinks 95 = .ok (.getfield 15, 3) := by decide +kernel
theorem dX5_takeLinks_98 : decode cX5_takeLinks 98 = .ok (.iload_n 2, 1) := by decide +kernel
theorem dX5_takeLinks_99 : decode cX5_takeLinks 99 = .ok (.aload_n 0, 1) := by decide +kernel
theorem dX5_takeLinks_100 : decode cX5_takeLinks 100 = .ok (.iload_n 2, 1) := by decide +kernel
theorem dX5_takeLinks_101 : decode cX5_takeLinks 101 = .ok (.invokevirtual 66, 3) := by decide +kernel
theorem dX5_takeLinks_104 : decode cX5_takeLinks 104 = .ok (.bastore, 1) := by decide +kernel
theorem dX5_takeLinks_105 : decode cX5_takeLinks 105 = .ok (.aload_n 0, 1) := by decide +kernel
theorem dX5_takeLinks_106 : decode cX5_takeLinks 106 = .ok (.getfield 15, 3) := by decide +kernel
theorem dX5_takeLinks_109 : decode cX5_takeLinks 109 = .ok (.iload_n 2, 1) := by decide +kernel
theorem dX5_takeLinks_110 : decode cX5_takeLinks 110 = .ok (.baload, 1) := by decide +kernel
theorem dX5_takeLinks_111 : decode cX5_takeLinks 111 = .ok (.ifCond .ne 32, 3) := by decide +kernel
theorem dX5_takeLinks_114 : decode cX5_takeLinks 114 = .ok (.aload_n 0, 1) := by decide +kernel
theorem dX5_takeLinks_115 : decode cX5_takeLinks 115 = .ok (.dup, 1) := by decide +kernel
theorem dX5_takeLinks_116 : decode cX5_takeLinks 116 = .ok (.getfield 70, 3) := by decide +kernel
theorem dX5_takeLinks_119 : decode cX5_takeLinks 119 = .ok (.iconst 1, 1) := by decide +kernel
theorem dX5_takeLinks_120 : decode cX5_takeLinks 120 = .ok (.iadd, 1) := by decide +kernel
theorem dX5_takeLinks_121 : decode cX5_takeLinks 121 = .ok (.putfield 70, 3) := by decide +kernel
theorem dX5_takeLinks_124 : decode cX5_takeLinks 124 = .ok (.aload_n 0, 1) := by decide +kernel
theorem dX5_takeLinks_125 : decode cX5_takeLinks 125 = .ok (.dup, 1) := by decide +kernel
theorem dX5_takeLinks_126 : decode cX5_takeLinks 126 = .ok (.getfield 73, 3) := by decide +kernel
theorem dX5_takeLinks_129 : decode cX5_takeLinks 129 = .ok (.aload_n 0, 1) := by decide +kernel
theorem dX5_takeLinks_130 : decode cX5_takeLinks 130 = .ok (.getfield 38, 3) := by decide +kernel
theorem dX5_takeLinks_133 : decode cX5_takeLinks 133 = .ok (.getfield 57, 3) := by decide +kernel
theorem dX5_takeLinks_136 : decode cX5_takeLinks 136 = .ok (.iload_n 2, 1) := by decide +kernel
theorem dX5_takeLinks_137 : decode cX5_takeLinks 137 = .ok (.iaload, 1) := by decide +kernel
theorem dX5_takeLinks_138 : decode cX5_takeLinks 138 = .ok (.i2l, 1) := by decide +kernel
theorem dX5_takeLinks_139 : decode cX5_takeLinks 139 = .ok (.ladd, 1) := by decide +kernel
theorem dX5_takeLinks_140 : decode cX5_takeLinks 140 = .ok (.putfield 73, 3) := by decide +kernel
theorem dX5_takeLinks_143 : decode cX5_takeLinks 143 = .ok (.iinc 1 1, 3) := by decide +kernel
theorem dX5_takeLinks_146 : decode cX5_takeLinks 146 = .ok (.goto (-70), 3) := by decide +kernel
theorem dX5_takeLinks_149 : decode cX5_takeLinks 149 = .ok (.return_, 1) := by decide +kernel
def L_X5_takeLinks_2 (r : Nat) (k : Hp → Option (Unit × Hp)) : Nat → Int32 → Hp → Option (Unit × Hp)
  | 0, _, _ => none
  | n + 1, x1, H => if (gI H (r + 2) 1 10) < x1 then k H else gd x1 21 (hl (sI H (r + 2) 28 (Int32.toNatClampNeg x1) x1) (fun (H2 : Hp) => vl (x1 + (1 : Int32)) (fun (v3 : Int32) => L_X5_takeLinks_2 r k n v3 H2)))
set_option maxRecDepth 100000 in
set_option maxHeartbeats 4000000 in
theorem sL_X5_takeLinks_2 {p : Program} {l : Launch} {e : Env} {s : State} {m : MethodId} {args : Array Value} {below : List Frame} {meth : Method} {c : Code} {A : Nat → Prop} {D : va_G} {K4 : kQ} {ad : Nat → Nat → Nat} {nr : Nat} {r : Nat} {k : Hp → Option (Unit × Hp)} {res : Unit × Hp} (hC : Cx p s m args c A s.heap D K4 3 RX5 cX5_takeLinks) (hret : meth.sig.returnType = none ∧ meth.locks = false) (hr_r : r < nr) (hk : ∀ (H : Hp), k H = some res → V p l e ({ frames := 1, cells := 0, slots := 0, locals := 24 }) s m args below meth c A s.heap (QU below args s A D K4 ad nr res) D K4 ad nr 3 26 [(0, .ref (ad (r + 2) 3))] [] H) : ∀ (n : Nat) (x1 : Int32) (H : Hp), L_X5_takeLinks_2 r k n x1 H = some res → V p l e ({ frames := 1, cells := 0, slots := 0, locals := 24 }) s m args below meth c A s.heap (QU below args s A D K4 ad nr res) D K4 ad nr 3 2 [(0, .ref (ad (r + 2) 3)), (1, .int x1)] [] H := by
  intro n
  induction n with
  | zero => intro x1 H h; exact nomatch (show (none : Option (Unit × Hp)) = some res from h)
  | succ n ih =>
    intro x1 H h
    rw [L_X5_takeLinks_2] at h
    refine V_iload_n hC 1 dX5_takeLinks_2 rfl ?_
    refine V_aload_n hC 0 dX5_takeLinks_3 rfl ?_
    refine V_getR (g := (r + 2)) (k := 3) (g' := (r + 2)) (k' := 1) hC 5 0 fl_X5_38 (okR hr_r rfl) rfl rfl rfl dX5_takeLinks_4 ?_
    refine V_getI (g := (r + 2)) (k := 1) hC 3 10 fl_X5_60 (okR hr_r rfl) rfl rfl dX5_takeLinks_7 ?_
    refine V_icmp_gt (tgt := 26) hC dX5_takeLinks_10 (by decide) (fun c1 => ?_) (fun c1 => ?_)
    · have h := it_pos c1 h
      refine V_lv (lv' := [(0, .ref (ad (r + 2) 3))]) [0] rfl ?_
      exact hk H h
    · have h := it_neg c1 h
      refine V_aload_n hC 0 dX5_takeLinks_13 rfl ?_
      refine V_getR (g := (r + 2)) (k := 3) (g' := (r + 2)) (k' := 28) hC 5 3 fl_X5_19 (okR hr_r rfl) rfl rfl rfl dX5_takeLinks_14 ?_
      refine V_iload_n hC 1 dX5_takeLinks_17 rfl ?_
      refine V_iload_n hC 1 dX5_takeLinks_18 rfl ?_
      obtain ⟨hi, h⟩ := gd_some h
      refine V_iast (g := (r + 2)) (k := 28) hC (okR hr_r rfl) rfl hi dX5_takeLinks_19 ?_
      refine V_hl h (fun H2 h => ?_)
      refine V_vi h (fun v3 hvv3 h => ?_)
      refine V_iinc (v := v3) (lv' := [(1, .int v3), (0, .ref (ad (r + 2) 3))]) hC 1 dX5_takeLinks_20 rfl hvv3.symm (Nat.le_of_ble_eq_true rfl) rfl ?_
      refine V_goto (tgt := 2) hC dX5_takeLinks_23 (by decide) ?_
      refine V_lv (lv' := [(0, .ref (ad (r + 2) 3)), (1, .int v3)]) [1, 0] rfl ?_
      exact ih v3 H2 h
def L_X5_takeLinks_34 (r : Nat) (k : Hp → Option (Unit × Hp)) : Nat → Int32 → Hp → Option (Unit × Hp)
  | 0, _, _ => none
  | n + 1, x1, H => if (gI H (r + 2) 1 12) ≤ x1 then k H else bnd (f_X5_joinParts r x1 H) (fun w8 H7 => gd x1 61 (hl (sI H7 (r + 2) 27 (Int32.toNatClampNeg x1) (vp_nar .boolean 1)) (fun (H9 : Hp) => vl (x1 + (1 : Int32)) (fun (v10 : Int32) => L_X5_takeLinks_34 r k n v10 H9))))
set_option maxRecDepth 100000 in
set_option maxHeartbeats 4000000 in
theorem sL_X5_takeLinks_34 {p : Program} {l : Launch} {e : Env} {s : State} {m : MethodId} {args : Array Value} {below : List Frame} {meth : Method} {c : Code} {A : Nat → Prop} {D : va_G} {K4 : kQ} {ad : Nat → Nat → Nat} {nr : Nat} {r : Nat} {k : Hp → Option (Unit × Hp)} {res : Unit × Hp} (hC : Cx p s m args c A s.heap D K4 3 RX5 cX5_takeLinks) (hret : meth.sig.returnType = none ∧ meth.locks = false) (hr_r : r < nr) (hk : ∀ (H : Hp), k H = some res → V p l e ({ frames := 1, cells := 0, slots := 0, locals := 24 }) s m args below meth c A s.heap (QU below args s A D K4 ad nr res) D K4 ad nr 3 64 [(0, .ref (ad (r + 2) 3))] [] H) : ∀ (n : Nat) (x1 : Int32) (H : Hp), L_X5_takeLinks_34 r k n x1 H = some res → V p l e ({ frames := 1, cells := 0, slots := 0, locals := 24 }) s m args below meth c A s.heap (QU below args s A D K4 ad nr res) D K4 ad nr 3 34 [(0, .ref (ad (r + 2) 3)), (1, .int x1)] [] H := by
  intro n
  induction n with
  | zero => intro x1 H h; exact nomatch (show (none : Option (Unit × Hp)) = some res from h)
  | succ n ih =>
    intro x1 H h
    rw [L_X5_takeLinks_34] at h
    refine V_iload_n hC 1 dX5_takeLinks_34 rfl ?_
    refine V_aload_n hC 0 dX5_takeLinks_35 rfl ?_
    refine V_getR (g := (r + 2)) (k := 3) (g' := (r + 2)) (k' := 1) hC 5 0 fl_X5_38 (okR hr_r rfl) rfl rfl rfl dX5_takeLinks_36 ?_
    refine V_getI (g := (r + 2)) (k := 1) hC 3 12 fl_X5_63 (okR hr_r rfl) rfl rfl dX5_takeLinks_39 ?_
    refine V_icmp_ge (tgt := 64) hC dX5_takeLinks_42 (by decide) (fun c6 => ?_) (fun c6 => ?_)
    · have h := it_pos c6 h
      refine V_lv (lv' := [(0, .ref (ad (r + 2) 3))]) [0] rfl ?_
      exact hk H h
    · have h := it_neg c6 h
      refine V_aload_n hC 0 dX5_takeLinks_45 rfl ?_
      refine V_iload_n hC 1 dX5_takeLinks_46 rfl ?_
      obtain ⟨w8, H7, hc, h⟩ := bnd_some h
      refine V_calli (g := (r + 2)) (k := 3) (As := [.int x1]) (st := []) hC (c_X5_joinParts l (hr_r := hr_r) hc) rfl ml_X5_66 ⟨Nat.le_of_ble_eq_true rfl, Nat.le_of_ble_eq_true rfl⟩ (okR hr_r rfl) rfl rfl (Nat.le_of_ble_eq_true rfl) dX5_takeLinks_47 ?_
      refine V_pop hC dX5_takeLinks_50 rfl ?_
      refine V_aload_n hC 0 dX5_takeLinks_51 rfl ?_
      refine V_getR (g := (r + 2)) (k := 3) (g' := (r + 2)) (k' := 27) hC 5 2 fl_X5_15 (okR hr_r rfl) rfl rfl rfl dX5_takeLinks_52 ?_
      refine V_iload_n hC 1 dX5_takeLinks_55 rfl ?_
      refine V_iconst (v := 1) hC dX5_takeLinks_56 (by decide) ?_
      obtain ⟨hi, h⟩ := gd_some h
      refine V_zast (g := (r + 2)) (k := 27) hC (okR hr_r rfl) rfl hi dX5_takeLinks_57 ?_
      refine V_hl h (fun H9 h => ?_)
      refine V_vi h (fun v10 hvv10 h => ?_)
      refine V_iinc (v := v10) (lv' := [(1, .int v10), (0, .ref (ad (r + 2) 3))]) hC 1 dX5_takeLinks_58 rfl hvv10.symm (Nat.le_of_ble_eq_true rfl) rfl ?_
      refine V_goto (tgt := 34) hC dX5_takeLinks_61 (by decide) ?_
      refine V_lv (lv' := [(0, .ref (ad (r + 2) 3)), (1, .int v10)]) [1, 0] rfl ?_
      exact ih v10 H9 h
def L_X5_takeLinks_76 (r : Nat) (k : Hp → Option (Unit × Hp)) : Nat → Int32 → Hp → Option (Unit × Hp)
  | 0, _, _ => none
  | n + 1, x1, H => if (gI H (r + 2) 1 11) ≤ x1 then k H else gd x1 40 (vl ((gI H (r + 2) 26 (Int32.toNatClampNeg x1))) (fun (v15 : Int32) => bnd (f_X5_joinParts r v15 H) (fun w17 H16 => gd v15 61 (hl (sI H16 (r + 2) 27 (Int32.toNatClampNeg v15) (vp_nar .boolean w17)) (fun (H18 : Hp) => gd v15 61 (if (gI H18 (r + 2) 27 (Int32.toNatClampNeg v15)) = 0 then hl (sI H18 (r + 2) 3 10 ((gI H18 (r + 2) 3 10) + 1)) (fun (H21 : Hp) => gd v15 40 (hl (sJ H21 (r + 2) 3 11 ((gJ H21 (r + 2) 3 11) + (Int32.toInt64 (gI H21 (r + 2) 15 (Int32.toNatClampNeg v15))))) (fun (H22 : Hp) => vl (x1 + (1 : Int32)) (fun (v23 : Int32) => L_X5_takeLinks_76 r k n v23 H22)))) else vl (x1 + (1 : Int32)) (fun (v20 : Int32) => L_X5_takeLinks_76 r k n v20 H18)))))))
set_option maxRecDepth 100000 in
set_option maxHeartbeats 4000000 in
theorem sL_X5_takeLinks_76 {p : Program} {l : Launch} {e : Env} {s : State} {m : MethodId} {args : Array Value} {below : List Frame} {meth : Method} {c : Code} {A : Nat → Prop} {D : va_G} {K4 : kQ} {ad : Nat → Nat → Nat} {nr : Nat} {r : Nat} {k : Hp → Option (Unit × Hp)} {res : Unit × Hp} (hC : Cx p s m args c A s.heap D K4 3 RX5 cX5_takeLinks) (hret : meth.sig.returnType = none ∧ meth.locks = false) (hr_r : r < nr) (hk : ∀ (H : Hp), k H = some res → V p l e ({ frames := 1, cells := 0, slots := 0, locals := 24 }) s m args below meth c A s.heap (QU below args s A D K4 ad nr res) D K4 ad nr 3 149 [] [] H) : ∀ (n : Nat) (x1 : Int32) (H : Hp), L_X5_takeLinks_76 r k n x1 H = some res → V p l e ({ frames := 1, cells := 0, slots := 0, locals := 24 }) s m args below meth c A s.heap (QU below args s A D K4 ad nr res) D K4 ad nr 3 76 [(0, .ref (ad (r + 2) 3)), (1, .int x1)] [] H := by
  intro n
  induction n with
  | zero => intro x1 H h; exact nomatch (show (none : Option (Unit × Hp)) = some res from h)
  | succ n ih =>
    intro x1 H h
    rw [L_X5_takeLinks_76] at h
    refine V_iload_n hC 1 dX5_takeLinks_76 rfl ?_
    refine V_aload_n hC 0 dX5_takeLinks_77 rfl ?_
    refine V_getR (g := (r + 2)) (k := 3) (g' := (r + 2)) (k' := 1) hC 5 0 fl_X5_38 (okR hr_r rfl) rfl rfl rfl dX5_takeLinks_78 ?_
    refine V_getI (g := (r + 2)) (k := 1) hC 3 11 fl_X5_51 (okR hr_r rfl) rfl rfl dX5_takeLinks_81 ?_
    refine V_icmp_ge (tgt := 149) hC dX5_takeLinks_84 (by decide) (fun c14 => ?_) (fun c14 => ?_)
    · have h := it_pos c14 h
      refine V_lv (lv' := []) [] rfl ?_
      exact hk H h
    · have h := it_neg c14 h
      refine V_aload_n hC 0 dX5_takeLinks_87 rfl ?_
      refine V_getR (g := (r + 2)) (k := 3) (g' := (r + 2)) (k' := 26) hC 5 1 fl_X5_9 (okR hr_r rfl) rfl rfl rfl dX5_takeLinks_88 ?_
      refine V_iload_n hC 1 dX5_takeLinks_91 rfl ?_
      obtain ⟨hi, h⟩ := gd_some h
      refine V_iald (g := (r + 2)) (k := 26) hC (okR hr_r rfl) rfl hi dX5_takeLinks_92 ?_
      refine V_vlI h (fun v15 h => ?_)
      refine V_istore_n (lv' := [(2, .int v15), (0, .ref (ad (r + 2) 3)), (1, .int x1)]) hC dX5_takeLinks_93 (Nat.le_of_ble_eq_true rfl) rfl ?_
      refine V_aload_n hC 1 dX5_takeLinks_94 rfl ?_
      refine V_getR (g := (r + 2)) (k := 3) (g' := (r + 2)) (k' := 27) hC 5 2 fl_X5_15 (okR hr_r rfl) rfl rfl rfl dX5_takeLinks_95 ?_
      refine V_iload_n hC 0 dX5_takeLinks_98 rfl ?_
      refine V_aload_n hC 1 dX5_takeLinks_99 rfl ?_
      refine V_iload_n hC 0 dX5_takeLinks_100 rfl ?_
      obtain ⟨w17, H16, hc, h⟩ := bnd_some h
      refine V_calli (g := (r + 2)) (k := 3) (As := [.int v15]) (st := [.int v15, .ref (ad (r + 2) 27)]) hC (c_X5_joinParts l (hr_r := hr_r) hc) rfl ml_X5_66 ⟨Nat.le_of_ble_eq_true rfl, Nat.le_of_ble_eq_true rfl⟩ (okR hr_r rfl) rfl rfl (Nat.le_of_ble_eq_true rfl) dX5_takeLinks_101 ?_
      obtain ⟨hi, h⟩ := gd_some h
      refine V_zast (g := (r + 2)) (k := 27) hC (okR hr_r rfl) rfl hi dX5_takeLinks_104 ?_
      refine V_hl h (fun H18 h => ?_)
      refine V_aload_n hC 1 dX5_takeLinks_105 rfl ?_
      refine V_getR (g := (r + 2)) (k := 3) (g' := (r + 2)) (k' := 27) hC 5 2 fl_X5_15 (okR hr_r rfl) rfl rfl rfl dX5_takeLinks_106 ?_
      refine V_iload_n hC 0 dX5_takeLinks_109 rfl ?_
      obtain ⟨hi, h⟩ := gd_some h
      refine V_zald (g := (r + 2)) (k := 27) hC (okR hr_r rfl) rfl hi dX5_takeLinks_110 ?_
      refine V_if_ne (tgt := 143) hC dX5_takeLinks_111 (by decide) (fun c19 => ?_) (fun c19 => ?_)
      · have h := it_neg c19 h
        refine V_vi h (fun v20 hvv20 h => ?_)
        refine V_iinc (v := v20) (lv' := [(1, .int v20), (2, .int v15), (0, .ref (ad (r + 2) 3))]) hC 2 dX5_takeLinks_143 rfl hvv20.symm (Nat.le_of_ble_eq_true rfl) rfl ?_
        refine V_goto (tgt := 76) hC dX5_takeLinks_146 (by decide) ?_
        refine V_lv (lv' := [(0, .ref (ad (r + 2) 3)), (1, .int v20)]) [2, 0] rfl ?_
        exact ih v20 H18 h
      · have h := it_pos c19 h
        refine V_aload_n hC 1 dX5_takeLinks_114 rfl ?_
        refine V_dup hC dX5_takeLinks_115 rfl ?_
        refine V_getI (g := (r + 2)) (k := 3) hC 5 10 fl_X5_70 (okR hr_r rfl) rfl rfl dX5_takeLinks_116 ?_
        refine V_iconst (v := 1) hC dX5_takeLinks_119 (by decide) ?_
        refine V_iadd hC dX5_takeLinks_120 ?_
        refine V_putI (g := (r + 2)) (k := 3) hC 5 10 .int fw_X5_70 (okR hr_r rfl) rfl rfl rfl rfl dX5_takeLinks_121 ?_
        refine V_hl h (fun H21 h => ?_)
        refine V_aload_n hC 1 dX5_takeLinks_124 rfl ?_
        refine V_dup hC dX5_takeLinks_125 rfl ?_
        refine V_getJ (g := (r + 2)) (k := 3) hC 5 11 fl_X5_73 (okR hr_r rfl) rfl rfl dX5_takeLinks_126 ?_
        refine V_aload_n hC 1 dX5_takeLinks_129 rfl ?_
        refine V_getR (g := (r + 2)) (k := 3) (g' := (r + 2)) (k' := 1) hC 5 0 fl_X5_38 (okR hr_r rfl) rfl rfl rfl dX5_takeLinks_130 ?_
        refine V_getR (g := (r + 2)) (k := 1) (g' := (r + 2)) (k' := 15) hC 3 7 fl_X5_57 (okR hr_r rfl) rfl rfl rfl dX5_takeLinks_133 ?_
        refine V_iload_n hC 0 dX5_takeLinks_136 rfl ?_
        obtain ⟨hi, h⟩ := gd_some h
        refine V_iald (g := (r + 2)) (k := 15) hC (okR hr_r rfl) rfl hi dX5_takeLinks_137 ?_
        refine V_i2l hC dX5_takeLinks_138 ?_
        refine V_ladd hC dX5_takeLinks_139 ?_
        refine V_putJ (g := (r + 2)) (k := 3) hC 5 11 .long fw_X5_73 (okR hr_r rfl) rfl rfl rfl rfl dX5_takeLinks_140 ?_
        refine V_hl h (fun H22 h => ?_)
        refine V_vi h (fun v23 hvv23 h => ?_)
        refine V_iinc (v := v23) (lv' := [(1, .int v23), (2, .int v15), (0, .ref (ad (r + 2) 3))]) hC 2 dX5_takeLinks_143 rfl hvv23.symm (Nat.le_of_ble_eq_true rfl) rfl ?_
        refine V_goto (tgt := 76) hC dX5_takeLinks_146 (by decide) ?_
        refine V_lv (lv' := [(0, .ref (ad (r + 2) 3)), (1, .int v23)]) [2, 0] rfl ?_
        exact ih v23 H22 h
def f_X5_takeLinks (r : Nat) (H : Hp) : Option (Unit × Hp) := L_X5_takeLinks_2 r (fun (H4 : Hp) => vl ((gI H4 (r + 2) 1 11)) (fun (v5 : Int32) => L_X5_takeLinks_34 r (fun (H11 : Hp) => hl (sI H11 (r + 2) 3 10 0) (fun (H12 : Hp) => hl (sJ H12 (r + 2) 3 11 0) (fun (H13 : Hp) => L_X5_takeLinks_76 r (fun (H24 : Hp) => some ((), H24)) FU 0 H13))) FU v5 H4)) FU 0 H
set_option maxRecDepth 100000 in
set_option maxHeartbeats 4000000 in
theorem s_X5_takeLinks {p : Program} {l : Launch} {e : Env} {s : State} {m : MethodId} {args : Array Value} {below : List Frame} {meth : Method} {c : Code} {A : Nat → Prop} {D : va_G} {K4 : kQ} {ad : Nat → Nat → Nat} {nr : Nat} {r : Nat} {H : Hp} {res : Unit × Hp} (hC : Cx p s m args c A s.heap D K4 3 RX5 cX5_takeLinks) (hret : meth.sig.returnType = none ∧ meth.locks = false) (hr_r : r < nr) (h : f_X5_takeLinks r H = some res) : V p l e ({ frames := 1, cells := 0, slots := 0, locals := 24 }) s m args below meth c A s.heap (QU below args s A D K4 ad nr res) D K4 ad nr 3 0 [(0, .ref (ad (r + 2) 3))] [] H := by
  unfold f_X5_takeLinks at h
  refine V_iconst (v := 0) hC dX5_takeLinks_0 (by decide) ?_
  refine V_istore_n (lv' := [(1, .int 0), (0, .ref (ad (r + 2) 3))]) hC dX5_takeLinks_1 (Nat.le_of_ble_eq_true rfl) rfl ?_
  refine V_lv (lv' := [(0, .ref (ad (r + 2) 3)), (1, .int 0)]) [1, 0] rfl ?_
  refine sL_X5_takeLinks_2 hC hret hr_r (fun H4 h => ?_) _ 0 H h
  refine V_aload_n hC 0 dX5_takeLinks_26 rfl ?_
  refine V_getR (g := (r + 2)) (k := 3) (g' := (r + 2)) (k' := 1) hC 5 0 fl_X5_38 (okR hr_r rfl) rfl rfl rfl dX5_takeLinks_27 ?_
  refine V_getI (g := (r + 2)) (k := 1) hC 3 11 fl_X5_51 (okR hr_r rfl) rfl rfl dX5_takeLinks_30 ?_
  refine V_vlI h (fun v5 h => ?_)
  refine V_istore_n (lv' := [(1, .int v5), (0, .ref (ad (r + 2) 3))]) hC dX5_takeLinks_33 (Nat.le_of_ble_eq_true rfl) rfl ?_
  refine V_lv (lv' := [(0, .ref (ad (r + 2) 3)), (1, .int v5)]) [1, 0] rfl ?_
  refine sL_X5_takeLinks_34 hC hret hr_r (fun H11 h => ?_) _ v5 H4 h
  refine V_aload_n hC 0 dX5_takeLinks_64 rfl ?_
  refine V_iconst (v := 0) hC dX5_takeLinks_65 (by decide) ?_
  refine V_putI (g := (r + 2)) (k := 3) hC 5 10 .int fw_X5_70 (okR hr_r rfl) rfl rfl rfl rfl dX5_takeLinks_66 ?_
  refine V_hl h (fun H12 h => ?_)
  refine V_aload_n hC 0 dX5_takeLinks_69 rfl ?_
  refine V_lconst (v := 0) hC dX5_takeLinks_70 (by decide) ?_
  refine V_putJ (g := (r + 2)) (k := 3) hC 5 11 .long fw_X5_73 (okR hr_r rfl) rfl rfl rfl rfl dX5_takeLinks_71 ?_
  refine V_hl h (fun H13 h => ?_)
  refine V_iconst (v := 0) hC dX5_takeLinks_74 (by decide) ?_
  refine V_istore_n (lv' := [(1, .int 0), (0, .ref (ad (r + 2) 3))]) hC dX5_takeLinks_75 (Nat.le_of_ble_eq_true rfl) rfl ?_
  refine V_lv (lv' := [(0, .ref (ad (r + 2) 3)), (1, .int 0)]) [1, 0] rfl ?_
  refine sL_X5_takeLinks_76 hC hret hr_r (fun H24 h => ?_) _ 0 H13 h
  exact V_vret hC hret dX5_takeLinks_149 h
theorem c_X5_takeLinks (l : Launch) {nr : Nat} {r : Nat} (hr_r : r < nr) {H : Hp} {x : Unit} {H' : Hp} (h : f_X5_takeLinks r H = some (x, H')) : CU l nr yX5_takeLinks cX5_takeLinks 3 none 1 24 (fun ad => [.ref (ad (r + 2) 3)]) H x H' := by
  intro D K4 ad sz
  refine Met.ofV (by decide) (Nat.le_of_ble_eq_true rfl) ?_
  intro p e s m args below meth c hC hret hsz
  subst hsz
  exact s_X5_takeLinks hC hret hr_r h
theorem dX5_otherEnd_0 : decode cX5_otherEnd 0 = .ok (.aload_n 0, 1) := by decide +kernel
theorem dX5_otherEnd_1 : decode cX5_otherEnd 1 = .ok (.getfield 38, 3) := by decide +kernel
theorem dX5_otherEnd_4 : decode cX5_otherEnd 4 = .ok (.getfield 77, 3) := by decide +kernel
theorem dX5_otherEnd_7 : decode cX5_otherEnd 7 = .ok (.iload_n 1, 1) := by decide +kernel
theorem dX5_otherEnd_8 : decode cX5_otherEnd 8 = .ok (.iaload, 1) := by decide +kernel
theorem dX5_otherEnd_9 : decode cX5_otherEnd 9 = .ok (.iload_n 2, 1) := by decide +kernel
theorem dX5_otherEnd_10 : decode cX5_otherEnd 10 = .ok (.if_icmp .ne 13, 3) := by decide +kernel
theorem dX5_otherEnd_13 : decode cX5_otherEnd 13 = .ok (.aload_n 0, 1) := by decide +kernel
theorem dX5_otherEnd_14 : decode cX5_otherEnd 14 = .ok (.getfield 38, 3) := by decide +kernel
theorem dX5_otherEnd_17 : decode cX5_otherEnd 17 = .ok (.getfield 80, 3) := by decide +kernel
theorem dX5_otherEnd_20 : decode cX5_otherEnd 20 = .ok (.iload_n 1, 1) := by decide +kernel
theorem dX5_otherEnd_21 : decode cX5_otherEnd 21 = .ok (.iaload, 1) := by decide +kernel
theorem dX5_otherEnd_22 : decode cX5_otherEnd 22 = .ok (.ireturn, 1) := by decide +kernel
theorem dX5_otherEnd_23 : decode cX5_otherEnd 23 = .ok (.aload_n 0, 1) := by decide +kernel
theorem dX5_otherEnd_24 : decode cX5_otherEnd 24 = .ok (.getfield 38, 3) := by decide +kernel
theorem dX5_otherEnd_27 : decode cX5_otherEnd 27 = .ok (.getfield 80, 3) := by decide +kernel
theorem dX5_otherEnd_30 : decode cX5_otherEnd 30 = .ok (.iload_n 1, 1) := by decide +kernel
theorem dX5_otherEnd_31 : decode cX5_otherEnd 31 = .ok (.iaload, 1) := by decide +kernel
theorem dX5_otherEnd_32 : decode cX5_otherEnd 32 = .ok (.iload_n 2, 1) := by decide +kernel
theorem dX5_otherEnd_33 : decode cX5_otherEnd 33 = .ok (.if_icmp .ne 15, 3) := by decide +kernel
theorem dX5_otherEnd_36 : decode cX5_otherEnd 36 = .ok (.aload_n 0, 1) := by decide +kernel
theorem dX5_otherEnd_37 : decode cX5_otherEnd 37 = .ok (.getfield 38, 3) := by decide +kernel
theorem dX5_otherEnd_40 : decode cX5_otherEnd 40 = .ok (.getfield 77, 3) := by decide +kernel
theorem dX5_otherEnd_43 : decode cX5_otherEnd 43 = .ok (.iload_n 1, 1) := by decide +kernel
theorem dX5_otherEnd_44 : decode cX5_otherEnd 44 = .ok (.iaload, 1) := by decide +kernel
theorem dX5_otherEnd_45 : decode cX5_otherEnd 45 = .ok (.goto 4, 3) := by decide +kernel
theorem dX5_otherEnd_48 : decode cX5_otherEnd 48 = .ok (.iconst (-1), 1) := by decide +kernel
theorem dX5_otherEnd_49 : decode cX5_otherEnd 49 = .ok (.ireturn, 1) := by decide +kernel
def f_X5_otherEnd (r : Nat) (a1 : Int32) (a2 : Int32) (H : Hp) : Option (Int32 × Hp) := gd a1 61 (if (gI H (r + 2) 13 (Int32.toNatClampNeg a1)) = a2 then gd a1 61 (some ((gI H (r + 2) 14 (Int32.toNatClampNeg a1)), H)) else gd a1 61 (if (gI H (r + 2) 14 (Int32.toNatClampNeg a1)) = a2 then gd a1 61 (some ((gI H (r + 2) 13 (Int32.toNatClampNeg a1)), H)) else some ((-1), H)))
set_option maxRecDepth 100000 in
set_option maxHeartbeats 4000000 in
theorem s_X5_otherEnd {p : Program} {l : Launch} {e : Env} {s : State} {m : MethodId} {args : Array Value} {below : List Frame} {meth : Method} {c : Code} {A : Nat → Prop} {D : va_G} {K4 : kQ} {ad : Nat → Nat → Nat} {nr : Nat} {r : Nat} {a1 : Int32} {a2 : Int32} {H : Hp} {res : Int32 × Hp} (hC : Cx p s m args c A s.heap D K4 3 RX5 cX5_otherEnd) (hret : meth.sig.returnType = (some .int) ∧ meth.locks = false) (hr_r : r < nr) (h : f_X5_otherEnd r a1 a2 H = some res) : V p l e ({ frames := 0, cells := 0, slots := 0, locals := 0 }) s m args below meth c A s.heap (QI below args s A D K4 ad nr res) D K4 ad nr 3 0 [(0, .ref (ad (r + 2) 3)), (1, .int a1), (2, .int a2)] [] H := by
  unfold f_X5_otherEnd at h
  refine V_aload_n hC 0 dX5_otherEnd_0 rfl ?_
  refine V_getR (g := (r + 2)) (k := 3) (g' := (r + 2)) (k' := 1) hC 5 0 fl_X5_38 (okR hr_r rfl) rfl rfl rfl dX5_otherEnd_1 ?_
  refine V_getR (g := (r + 2)) (k := 1) (g' := (r + 2)) (k' := 13) hC 3 5 fl_X5_77 (okR hr_r rfl) rfl rfl rfl dX5_otherEnd_4 ?_
  refine V_iload_n hC 1 dX5_otherEnd_7 rfl ?_
  obtain ⟨hi, h⟩ := gd_some h
  refine V_iald (g := (r + 2)) (k := 13) hC (okR hr_r rfl) rfl hi dX5_otherEnd_8 ?_
  refine V_iload_n hC 2 dX5_otherEnd_9 rfl ?_
  refine V_icmp_ne (tgt := 23) hC dX5_otherEnd_10 (by decide) (fun c1 => ?_) (fun c1 => ?_)
  · have h := it_neg c1 h
    refine V_aload_n hC 0 dX5_otherEnd_23 rfl ?_
    refine V_getR (g := (r + 2)) (k := 3) (g' := (r + 2)) (k' := 1) hC 5 0 fl_X5_38 (okR hr_r rfl) rfl rfl rfl dX5_otherEnd_24 ?_
    refine V_getR (g := (r + 2)) (k := 1) (g' := (r + 2)) (k' := 14) hC 3 6 fl_X5_80 (okR hr_r rfl) rfl rfl rfl dX5_otherEnd_27 ?_
    refine V_iload_n hC 1 dX5_otherEnd_30 rfl ?_
    obtain ⟨hi, h⟩ := gd_some h
    refine V_iald (g := (r + 2)) (k := 14) hC (okR hr_r rfl) rfl hi dX5_otherEnd_31 ?_
    refine V_iload_n hC 2 dX5_otherEnd_32 rfl ?_
    refine V_icmp_ne (tgt := 48) hC dX5_otherEnd_33 (by decide) (fun c2 => ?_) (fun c2 => ?_)
    · have h := it_neg c2 h
      refine V_iconst (v := -1) hC dX5_otherEnd_48 (by decide) ?_
      exact V_iret hC hret dX5_otherEnd_49 h
    · have h := it_pos c2 h
      refine V_aload_n hC 0 dX5_otherEnd_36 rfl ?_
      refine V_getR (g := (r + 2)) (k := 3) (g' := (r + 2)) (k' := 1) hC 5 0 fl_X5_38 (okR hr_r rfl) rfl rfl rfl dX5_otherEnd_37 ?_
      refine V_getR (g := (r + 2)) (k := 1) (g' := (r + 2)) (k' := 13) hC 3 5 fl_X5_77 (okR hr_r rfl) rfl rfl rfl dX5_otherEnd_40 ?_
      refine V_iload_n hC 1 dX5_otherEnd_43 rfl ?_
      obtain ⟨hi, h⟩ := gd_some h
      refine V_iald (g := (r + 2)) (k := 13) hC (okR hr_r rfl) rfl hi dX5_otherEnd_44 ?_
      refine V_goto (tgt := 49) hC dX5_otherEnd_45 (by decide) ?_
      exact V_iret hC hret dX5_otherEnd_49 h
  · have h := it_pos c1 h
    refine V_aload_n hC 0 dX5_otherEnd_13 rfl ?_
    refine V_getR (g := (r + 2)) (k := 3) (g' := (r + 2)) (k' := 1) hC 5 0 fl_X5_38 (okR hr_r rfl) rfl rfl rfl dX5_otherEnd_14 ?_
    refine V_getR (g := (r + 2)) (k := 1) (g' := (r + 2)) (k' := 14) hC 3 6 fl_X5_80 (okR hr_r rfl) rfl rfl rfl dX5_otherEnd_17 ?_
    refine V_iload_n hC 1 dX5_otherEnd_20 rfl ?_
    obtain ⟨hi, h⟩ := gd_some h
    refine V_iald (g := (r + 2)) (k := 14) hC (okR hr_r rfl) rfl hi dX5_otherEnd_21 ?_
    exact V_iret hC hret dX5_otherEnd_22 h
theorem c_X5_otherEnd (l : Launch) {nr : Nat} {r : Nat} (hr_r : r < nr) {a1 : Int32} {a2 : Int32} {H : Hp} {x : Int32} {H' : Hp} (h : f_X5_otherEnd r a1 a2 H = some (x, H')) : CI l nr yX5_otherEnd cX5_otherEnd 3 (some .int) 0 0 (fun ad => [.ref (ad (r + 2) 3), .int a1, .int a2]) H x H' := by
  intro D K4 ad sz
  refine Met.ofV (by decide) (Nat.le_of_ble_eq_true rfl) ?_
  intro p e s m args below meth c hC hret hsz
  subst hsz
  exact s_X5_otherEnd hC hret hr_r h
theorem dX5_lineUp_0 : decode cX5_lineUp 0 = .ok (.aload_n 0, 1) := by decide +kernel
theorem dX5_lineUp_1 : decode cX5_lineUp 1 = .ok (.getfield 83, 3) := by decide +kernel
theorem dX5_lineUp_4 : decode cX5_lineUp 4 = .ok (.bipush 21, 2) := by decide +kernel
theorem dX5_lineUp_6 : decode cX5_lineUp 6 = .ok (.if_icmp .ge 37, 3) := by decide +kernel
theorem dX5_lineUp_9 : decode cX5_lineUp 9 = .ok (.aload_n 0, 1) := by decide +kernel
theorem dX5_lineUp_10 : decode cX5_lineUp 10 = .ok (.getfield 25, 3) := by decide +kernel
theorem dX5_lineUp_13 : decode cX5_lineUp 13 = .ok (.aload_n 0, 1) := by decide +kernel
theorem dX5_lineUp_14 : decode cX5_lineUp 14 = .ok (.getfield 83, 3) := by decide +kernel
theorem dX5_lineUp_17 : decode cX5_lineUp 17 = .ok (.iload_n 1, 1) := by decide +kernel
theorem dX5_lineUp_18 : decode cX5_lineUp 18 = .ok (.iastore, 1) := by decide +kernel
theorem dX5_lineUp_19 : decode cX5_lineUp 19 = .ok (.aload_n 0, 1) := by decide +kernel
theorem dX5_lineUp_20 : decode cX5_lineUp 20 = .ok (.dup, 1) := by decide +kernel
theorem dX5_lineUp_21 : decode cX5_lineUp 21 = .ok (.getfield 83, 3) := by decide +kernel
theorem dX5_lineUp_24 : decode cX5_lineUp 24 = .ok (.iconst 1, 1) := by decide +kernel
theorem dX5_lineUp_25 : decode cX5_lineUp 25 = .ok (.iadd, 1) := by decide +kernel
theorem dX5_lineUp_26 : decode cX5_lineUp 26 = .ok (.putfield 83, 3) := by decide +kernel
theorem dX5_lineUp_29 : decode cX5_lineUp 29 = .ok (.aload_n 0, 1) := by decide +kernel
theorem dX5_lineUp_30 : decode cX5_lineUp 30 = .ok (.getfield 28, 3) := by decide +kernel
theorem dX5_lineUp_33 : decode cX5_lineUp 33 = .ok (.iload_n 1, 1) := by decide +kernel
theorem dX5_lineUp_34 : decode cX5_lineUp 34 = .ok (.iconst 1, 1) := by decide +kernel
theorem dX5_lineUp_35 : decode cX5_lineUp 35 = .ok (.bastore, 1) := by decide +kernel
theorem dX5_lineUp_36 : decode cX5_lineUp 36 = .ok (.aload_n 0, 1) := by decide +kernel
theorem dX5_lineUp_37 : decode cX5_lineUp 37 = .ok (.getfield 22, 3) := by decide +kernel
theorem dX5_lineUp_40 : decode cX5_lineUp 40 = .ok (.iload_n 1, 1) := by decide +kernel
theorem dX5_lineUp_41 : decode cX5_lineUp 41 = .ok (.iload_n 2, 1) := by decide +kernel
theorem dX5_lineUp_42 : decode cX5_lineUp 42 = .ok (.iastore, 1) := by decide +kernel
theorem dX5_lineUp_43 : decode cX5_lineUp 43 = .ok (.return_, 1) := by decide +kernel
def f_X5_lineUp (r : Nat) (a1 : Int32) (a2 : Int32) (H : Hp) : Option (Unit × Hp) := if 21 ≤ (gI H (r + 2) 3 9) then some ((), H) else gd (gI H (r + 2) 3 9) 21 (hl (sI H (r + 2) 30 (Int32.toNatClampNeg (gI H (r + 2) 3 9)) a1) (fun (H2 : Hp) => hl (sI H2 (r + 2) 3 9 ((gI H2 (r + 2) 3 9) + 1)) (fun (H3 : Hp) => gd a1 21 (hl (sI H3 (r + 2) 31 (Int32.toNatClampNeg a1) (vp_nar .boolean 1)) (fun (H4 : Hp) => gd a1 21 (hl (sI H4 (r + 2) 29 (Int32.toNatClampNeg a1) a2) (fun (H5 : Hp) => some ((), H5))))))))
set_option maxRecDepth 100000 in
set_option maxHeartbeats 4000000 in
theorem s_X5_lineUp {p : Program} {l : Launch} {e : Env} {s : State} {m : MethodId} {args : Array Value} {below : List Frame} {meth : Method} {c : Code} {A : Nat → Prop} {D : va_G} {K4 : kQ} {ad : Nat → Nat → Nat} {nr : Nat} {r : Nat} {a1 : Int32} {a2 : Int32} {H : Hp} {res : Unit × Hp} (hC : Cx p s m args c A s.heap D K4 3 RX5 cX5_lineUp) (hret : meth.sig.returnType = none ∧ meth.locks = false) (hr_r : r < nr) (h : f_X5_lineUp r a1 a2 H = some res) : V p l e ({ frames := 0, cells := 0, slots := 0, locals := 0 }) s m args below meth c A s.heap (QU below args s A D K4 ad nr res) D K4 ad nr 3 0 [(0, .ref (ad (r + 2) 3)), (1, .int a1), (2, .int a2)] [] H := by
  unfold f_X5_lineUp at h
  refine V_aload_n hC 0 dX5_lineUp_0 rfl ?_
  refine V_getI (g := (r + 2)) (k := 3) hC 5 9 fl_X5_83 (okR hr_r rfl) rfl rfl dX5_lineUp_1 ?_
  refine V_bipush (v := 21) hC dX5_lineUp_4 (by decide) ?_
  refine V_icmp_ge (tgt := 43) hC dX5_lineUp_6 (by decide) (fun c1 => ?_) (fun c1 => ?_)
  · have h := it_pos c1 h
    exact V_vret hC hret dX5_lineUp_43 h
  · have h := it_neg c1 h
    refine V_aload_n hC 0 dX5_lineUp_9 rfl ?_
    refine V_getR (g := (r + 2)) (k := 3) (g' := (r + 2)) (k' := 30) hC 5 5 fl_X5_25 (okR hr_r rfl) rfl rfl rfl dX5_lineUp_10 ?_
    refine V_aload_n hC 0 dX5_lineUp_13 rfl ?_
    refine V_getI (g := (r + 2)) (k := 3) hC 5 9 fl_X5_83 (okR hr_r rfl) rfl rfl dX5_lineUp_14 ?_
    refine V_iload_n hC 1 dX5_lineUp_17 rfl ?_
    obtain ⟨hi, h⟩ := gd_some h
    refine V_iast (g := (r + 2)) (k := 30) hC (okR hr_r rfl) rfl hi dX5_lineUp_18 ?_
    refine V_hl h (fun H2 h => ?_)
    refine V_aload_n hC 0 dX5_lineUp_19 rfl ?_
    refine V_dup hC dX5_lineUp_20 rfl ?_
    refine V_getI (g := (r + 2)) (k := 3) hC 5 9 fl_X5_83 (okR hr_r rfl) rfl rfl dX5_lineUp_21 ?_
    refine V_iconst (v := 1) hC dX5_lineUp_24 (by decide) ?_
    refine V_iadd hC dX5_lineUp_25 ?_
    refine V_putI (g := (r + 2)) (k := 3) hC 5 9 .int fw_X5_83 (okR hr_r rfl) rfl rfl rfl rfl dX5_lineUp_26 ?_
    refine V_hl h (fun H3 h => ?_)
    refine V_aload_n hC 0 dX5_lineUp_29 rfl ?_
    refine V_getR (g := (r + 2)) (k := 3) (g' := (r + 2)) (k' := 31) hC 5 6 fl_X5_28 (okR hr_r rfl) rfl rfl rfl dX5_lineUp_30 ?_
    refine V_iload_n hC 1 dX5_lineUp_33 rfl ?_
    refine V_iconst (v := 1) hC dX5_lineUp_34 (by decide) ?_
    obtain ⟨hi, h⟩ := gd_some h
    refine V_zast (g := (r + 2)) (k := 31) hC (okR hr_r rfl) rfl hi dX5_lineUp_35 ?_
    refine V_hl h (fun H4 h => ?_)
    refine V_aload_n hC 0 dX5_lineUp_36 rfl ?_
    refine V_getR (g := (r + 2)) (k := 3) (g' := (r + 2)) (k' := 29) hC 5 4 fl_X5_22 (okR hr_r rfl) rfl rfl rfl dX5_lineUp_37 ?_
    refine V_iload_n hC 1 dX5_lineUp_40 rfl ?_
    refine V_iload_n hC 2 dX5_lineUp_41 rfl ?_
    obtain ⟨hi, h⟩ := gd_some h
    refine V_iast (g := (r + 2)) (k := 29) hC (okR hr_r rfl) rfl hi dX5_lineUp_42 ?_
    refine V_hl h (fun H5 h => ?_)
    exact V_vret hC hret dX5_lineUp_43 h
theorem c_X5_lineUp (l : Launch) {nr : Nat} {r : Nat} (hr_r : r < nr) {a1 : Int32} {a2 : Int32} {H : Hp} {x : Unit} {H' : Hp} (h : f_X5_lineUp r a1 a2 H = some (x, H')) : CU l nr yX5_lineUp cX5_lineUp 3 none 0 0 (fun ad => [.ref (ad (r + 2) 3), .int a1, .int a2]) H x H' := by
  intro D K4 ad sz
  refine Met.ofV (by decide) (Nat.le_of_ble_eq_true rfl) ?_
  intro p e s m args below meth c hC hret hsz
  subst hsz
  exact s_X5_lineUp hC hret hr_r h
theorem dX5_lineUpFromEnd_0 : decode cX5_lineUpFromEnd 0 = .ok (.iconst 0, 1) := by decide +kernel
theorem dX5_lineUpFromEnd_1 : decode cX5_lineUpFromEnd 1 = .ok (.istore_n 1, 1) := by decide +kernel
theorem dX5_lineUpFromEnd_2 : decode cX5_lineUpFromEnd 2 = .ok (.iload_n 1, 1) := by decide +kernel
theorem dX5_lineUpFromEnd_3 : decode cX5_lineUpFromEnd 3 = .ok (.aload_n 0, 1) := by decide +kernel
theorem dX5_lineUpFromEnd_4 : decode cX5_lineUpFromEnd 4 = .ok (.getfield 38, 3) := by decide +kernel
theorem dX5_lineUpFromEnd_7 : decode cX5_lineUpFromEnd 7 = .ok (.getfield 60, 3) := by decide +kernel
theorem dX5_lineUpFromEnd_10 : decode cX5_lineUpFromEnd 10 = .ok (.if_icmp .gt 23, 3) := by decide +kernel
theorem dX5_lineUpFromEnd_13 : decode cX5_lineUpFromEnd 13 = .ok (.aload_n 0, 1) := by decide +kernel
theorem dX5_lineUpFromEnd_14 : decode cX5_lineUpFromEnd 14 = .ok (.getfield 28, 3) := by decide +kernel
theorem dX5_lineUpFromEnd_17 : decode cX5_lineUpFromEnd 17 = .ok (.iload_n 1, 1) := by decide +kernel
theorem dX5_lineUpFromEnd_18 : decode cX5_lineUpFromEnd 18 = .ok (.iconst 0, 1) := by decide +kernel
theorem dX5_lineUpFromEnd_19 : decode cX5_lineUpFromEnd 19 = .ok (.bastore, 1) := by decide +kernel
theorem dX5_lineUpFromEnd_20 : decode cX5_lineUpFromEnd 20 = .ok (.aload_n 0, 1) := by decide +kernel
theorem dX5_lineUpFromEnd_21 : decode cX5_lineUpFromEnd 21 = .ok (.getfield 22, 3) := by decide +kernel
theorem dX5_lineUpFromEnd_24 : decode cX5_lineUpFromEnd 24 = .ok (.iload_n 1, 1) := by decide +kernel
theorem dX5_lineUpFromEnd_25 : decode cX5_lineUpFromEnd 25 = .ok (.iconst (-1), 1) := by decide +kernel
theorem dX5_lineUpFromEnd_26 : decode cX5_lineUpFromEnd 26 = .ok (.iastore, 1) := by decide +kernel
theorem dX5_lineUpFromEnd_27 : decode cX5_lineUpFromEnd 27 = .ok (.iinc 1 1, 3) := by decide +kernel
theorem dX5_lineUpFromEnd_30 : decode cX5_lineUpFromEnd 30 = .ok (.goto (-28), 3) := by decide +kernel
theorem dX5_lineUpFromEnd_33 : decode cX5_lineUpFromEnd 33 = .ok (.aload_n 0, 1) := by decide +kernel
theorem dX5_lineUpFromEnd_34 : decode cX5_lineUpFromEnd 34 = .ok (.iconst 0, 1) := by decide +kernel
theorem dX5_lineUpFromEnd_35 : decode cX5_lineUpFromEnd 35 = .ok (.putfield 83, 3) := by decide +kernel
theorem dX5_lineUpFromEnd_38 : decode cX5_lineUpFromEnd 38 = .ok (.aload_n 0, 1) := by decide +kernel
theorem dX5_lineUpFromEnd_39 : decode cX5_lineUpFromEnd 39 = .ok (.aload_n 0, 1) := by decide +kernel
theorem dX5_lineUpFromEnd_40 : decode cX5_lineUpFromEnd 40 = .ok (.getfield 38, 3) := by decide +kernel
theorem dX5_lineUpFromEnd_43 : decode cX5_lineUpFromEnd 43 = .ok (.getfield 60, 3) := by decide +kernel
theorem dX5_lineUpFromEnd_46 : decode cX5_lineUpFromEnd 46 = .ok (.iconst (-1), 1) := by decide +kernel
theorem dX5_lineUpFromEnd_47 : decode cX5_lineUpFromEnd 47 = .ok (.invokevirtual 86, 3) := by decide +kernel
theorem dX5_lineUpFromEnd_50 : decode cX5_lineUpFromEnd 50 = .ok (.iconst 0, 1) := by decide +kernel
theorem dX5_lineUpFromEnd_51 : decode cX5_lineUpFromEnd 51 = .ok (.istore_n 1, 1) := by decide +kernel
theorem dX5_lineUpFromEnd_52 : decode cX5_lineUpFromEnd 52 = .ok (.iload_n 1, 1) := by decide +kernel
theorem dX5_lineUpFromEnd_53 : decode cX5_lineUpFromEnd 53 = .ok (.aload_n 0, 1) := by decide +kernel
theorem dX5_lineUpFromEnd_54 : decode cX5_lineUpFromEnd 54 = .ok (.getfield 83, 3) := by decide +kernel
theorem dX5_lineUpFromEnd_57 : decode cX5_lineUpFromEnd 57 = .ok (.if_icmp .ge 79, 3) := by decide +kernel
theorem dX5_lineUpFromEnd_60 : decode cX5_lineUpFromEnd 60 = .ok (.iload_n 1, 1) := by decide +kernel
theorem dX5_lineUpFromEnd_61 : decode cX5_lineUpFromEnd 61 = .ok (.bipush 21, 2) := by decide +kernel
theorem dX5_lineUpFromEnd_63 : decode cX5_lineUpFromEnd 63 = .ok (.if_icmp .ge 73, 3) := by decide +kernel
theorem dX5_lineUpFromEnd_66 : decode cX5_lineUpFromEnd 66 = .ok (.iconst 0, 1) := by decide +kernel
theorem dX5_lineUpFromEnd_67 : decode cX5_lineUpFromEnd 67 = .ok (.istore_n 2, 1) := by decide +kernel
theorem dX5_lineUpFromEnd_68 : decode cX5_lineUpFromEnd 68 = .ok (.iload_n 2, 1) := by decide +kernel
theorem dX5_lineUpFromEnd_69 : decode cX5_lineUpFromEnd 69 = .ok (.aload_n 0, 1) := by decide +kernel
theorem dX5_lineUpFromEnd_70 : decode cX5_lineUpFromEnd 70 = .ok (.getfield 38, 3) := by decide +kernel
theorem dX5_lineUpFromEnd_73 : decode cX5_lineUpFromEnd 73 = .ok (.getfield 63, 3) := by decide +kernel
theorem dX5_lineUpFromEnd_76 : decode cX5_lineUpFromEnd 76 = .ok (.if_icmp .ge 54, 3) := by decide +kernel
theorem dX5_lineUpFromEnd_79 : decode cX5_lineUpFromEnd 79 = .ok (.aload_n 0, 1) := by decide +kernel
theorem dX5_lineUpFromEnd_80 : decode cX5_lineUpFromEnd 80 = .ok (.getfield 15, 3) := by decide +kernel
theorem dX5_lineUpFromEnd_83 : decode cX5_lineUpFromEnd 83 = .ok (.iload_n 2, 1) := by decide +kernel
theorem dX5_lineUpFromEnd_84 : decode cX5_lineUpFromEnd 84 = .ok (.baload, 1) := by decide +kernel
theorem dX5_lineUpFromEnd_85 : decode cX5_lineUpFromEnd 85 = .ok (.ifCond .eq 17, 3) := by decide +kernel
theorem dX5_lineUpFromEnd_88 : decode cX5_lineUpFromEnd 88 = .ok (.aload_n 0, 1) := by decide +kernel
theorem dX5_lineUpFromEnd_89 : decode cX5_lineUpFromEnd 89 = .ok (.iload_n 2, 1) := by decide +kernel
theorem dX5_lineUpFromEnd_90 : decode cX5_lineUpFromEnd 90 = .ok (.aload_n 0, 1) := by decide +kernel
theorem dX5_lineUpFromEnd_91 : decode cX5_lineUpFromEnd 91 = .ok (.getfield 25, 3) := by decide +kernel
theorem dX5_lineUpFromEnd_94 : decode cX5_lineUpFromEnd 94 = .ok (.iload_n 1, 1) := by decide +kernel
theorem dX5_lineUpFromEnd_95 : decode cX5_lineUpFromEnd 95 = .ok (.iaload, 1) := by decide +kernel
theorem dX5_lineUpFromEnd_96 : decode cX5_lineUpFromEnd 96 = .ok (.invokevirtual 90, 3) := by decide +kernel
theorem dX5_lineUpFromEnd_99 : decode cX5_lineUpFromEnd 99 = .ok (.goto 4, 3) := by decide +kernel
theorem dX5_lineUpFromEnd_102 : decode cX5_lineUpFromEnd 102 = .ok (.iconst (-1), 1) := by decide +kernel
theorem dX5_lineUpFromEnd_103 : decode cX5_lineUpFromEnd 103 = .ok (.istore_n 3, 1) := by decide +kernel
theorem dX5_lineUpFromEnd_104 : decode cX5_lineUpFromEnd 104 = .ok (.iload_n 3, 1) := by decide +kernel
theorem dX5_lineUpFromEnd_105 : decode cX5_lineUpFromEnd 105 = .ok (.iconst (-1), 1) := by decide +kernel
theorem dX5_lineUpFromEnd_106 : decode cX5_lineUpFromEnd 106 = .ok (.if_icmp .eq 18, 3) := by decide +kernel
theorem dX5_lineUpFromEnd_109 : decode cX5_lineUpFromEnd 109 = .ok (.aload_n 0, 1) := by decide +kernel
theorem dX5_lineUpFromEnd_110 : decode cX5_lineUpFromEnd 110 = .ok (.getfield 28, 3) := by decide +kernel
theorem dX5_lineUpFromEnd_113 : decode cX5_lineUpFromEnd 113 = .ok (.iload_n 3, 1) := by decide +kernel
theorem dX5_lineUpFromEnd_114 : decode cX5_lineUpFromEnd 114 = .ok (.baload, 1) := by decide +kernel
theorem dX5_lineUpFromEnd_115 : decode cX5_lineUpFromEnd 115 = .ok (.ifCond .ne 9, 3) := by decide +kernel
theorem dX5_lineUpFromEnd_118 : decode cX5_lineUpFromEnd 118 = .ok (.aload_n 0, 1) := by decide +kernel
theorem dX5_lineUpFromEnd_119 : decode cX5_lineUpFromEnd 119 = .ok (.iload_n 3, 1) := by decide +kernel
theorem dX5_lineUpFromEnd_120 : decode cX5_lineUpFromEnd 120 = .ok (.iload_n 2, 1) := by decide +kernel
theorem dX5_lineUpFromEnd_121 : decode cX5_lineUpFromEnd 121 = .ok (.invokevirtual 86, 3) := by decide +kernel
theorem dX5_lineUpFromEnd_124 : decode cX5_lineUpFromEnd 124 = .ok (.iinc 2 1, 3) := by decide +kernel
theorem dX5_lineUpFromEnd_127 : decode cX5_lineUpFromEnd 127 = .ok (.goto (-59), 3) := by decide +kernel
theorem dX5_lineUpFromEnd_130 : decode cX5_lineUpFromEnd 130 = .ok (.iinc 1 1, 3) := by decide +kernel
theorem dX5_lineUpFromEnd_133 : decode cX5_lineUpFromEnd 133 = .ok (.goto (-81), 3) := by decide +kernel
theorem dX5_lineUpFromEnd_136 : decode cX5_lineUpFromEnd 136 = .ok (.return_, 1) := by decide +kernel
def L_X5_lineUpFromEnd_2 (r : Nat) (k : Hp → Option (Unit × Hp)) : Nat → Int32 → Hp → Option (Unit × Hp)
  | 0, _, _ => none
  | n + 1, x1, H => if (gI H (r + 2) 1 10) < x1 then k H else gd x1 21 (hl (sI H (r + 2) 31 (Int32.toNatClampNeg x1) (vp_nar .boolean 0)) (fun (H2 : Hp) => gd x1 21 (hl (sI H2 (r + 2) 29 (Int32.toNatClampNeg x1) (-1)) (fun (H3 : Hp) => vl (x1 + (1 : Int32)) (fun (v4 : Int32) => L_X5_lineUpFromEnd_2 r k n v4 H3)))))
set_option maxRecDepth 100000 in
set_option maxHeartbeats 4000000 in
theorem sL_X5_lineUpFromEnd_2 {p : Program} {l : Launch} {e : Env} {s : State} {m : MethodId} {args : Array Value} {below : List Frame} {meth : Method} {c : Code} {A : Nat → Prop} {D : va_G} {K4 : kQ} {ad : Nat → Nat → Nat} {nr : Nat} {r : Nat} {k : Hp → Option (Unit × Hp)} {res : Unit × Hp} (hC : Cx p s m args c A s.heap D K4 4 RX5 cX5_lineUpFromEnd) (hret : meth.sig.returnType = none ∧ meth.locks = false) (hr_r : r < nr) (hk : ∀ (H : Hp), k H = some res → V p l e ({ frames := 1, cells := 0, slots := 0, locals := 22 }) s m args below meth c A s.heap (QU below args s A D K4 ad nr res) D K4 ad nr 4 33 [(0, .ref (ad (r + 2) 3))] [] H) : ∀ (n : Nat) (x1 : Int32) (H : Hp), L_X5_lineUpFromEnd_2 r k n x1 H = some res → V p l e ({ frames := 1, cells := 0, slots := 0, locals := 22 }) s m args below meth c A s.heap (QU below args s A D K4 ad nr res) D K4 ad nr 4 2 [(0, .ref (ad (r + 2) 3)), (1, .int x1)] [] H := by
  intro n
  induction n with
  | zero => intro x1 H h; exact nomatch (show (none : Option (Unit × Hp)) = some res from h)
  | succ n ih =>
    intro x1 H h
    rw [L_X5_lineUpFromEnd_2] at h
    refine V_iload_n hC 1 dX5_lineUpFromEnd_2 rfl ?_
    refine V_aload_n hC 0 dX5_lineUpFromEnd_3 rfl ?_
    refine V_getR (g := (r + 2)) (k := 3) (g' := (r + 2)) (k' := 1) hC 5 0 fl_X5_38 (okR hr_r rfl) rfl rfl rfl dX5_lineUpFromEnd_4 ?_
    refine V_getI (g := (r + 2)) (k := 1) hC 3 10 fl_X5_60 (okR hr_r rfl) rfl rfl dX5_lineUpFromEnd_7 ?_
    refine V_icmp_gt (tgt := 33) hC dX5_lineUpFromEnd_10 (by decide) (fun c1 => ?_) (fun c1 => ?_)
    · have h := it_pos c1 h
      refine V_lv (lv' := [(0, .ref (ad (r + 2) 3))]) [0] rfl ?_
      exact hk H h
    · have h := it_neg c1 h
      refine V_aload_n hC 0 dX5_lineUpFromEnd_13 rfl ?_
      refine V_getR (g := (r + 2)) (k := 3) (g' := (r + 2)) (k' := 31) hC 5 6 fl_X5_28 (okR hr_r rfl) rfl rfl rfl dX5_lineUpFromEnd_14 ?_
      refine V_iload_n hC 1 dX5_lineUpFromEnd_17 rfl ?_
      refine V_iconst (v := 0) hC dX5_lineUpFromEnd_18 (by decide) ?_
      obtain ⟨hi, h⟩ := gd_some h
      refine V_zast (g := (r + 2)) (k := 31) hC (okR hr_r rfl) rfl hi dX5_lineUpFromEnd_19 ?_
      refine V_hl h (fun H2 h => ?_)
      refine V_aload_n hC 0 dX5_lineUpFromEnd_20 rfl ?_
      refine V_getR (g := (r + 2)) (k := 3) (g' := (r + 2)) (k' := 29) hC 5 4 fl_X5_22 (okR hr_r rfl) rfl rfl rfl dX5_lineUpFromEnd_21 ?_
      refine V_iload_n hC 1 dX5_lineUpFromEnd_24 rfl ?_
      refine V_iconst (v := -1) hC dX5_lineUpFromEnd_25 (by decide) ?_
      obtain ⟨hi, h⟩ := gd_some h
      refine V_iast (g := (r + 2)) (k := 29) hC (okR hr_r rfl) rfl hi dX5_lineUpFromEnd_26 ?_
      refine V_hl h (fun H3 h => ?_)
      refine V_vi h (fun v4 hvv4 h => ?_)
      refine V_iinc (v := v4) (lv' := [(1, .int v4), (0, .ref (ad (r + 2) 3))]) hC 1 dX5_lineUpFromEnd_27 rfl hvv4.symm (Nat.le_of_ble_eq_true rfl) rfl ?_
      refine V_goto (tgt := 2) hC dX5_lineUpFromEnd_30 (by decide) ?_
      refine V_lv (lv' := [(0, .ref (ad (r + 2) 3)), (1, .int v4)]) [1, 0] rfl ?_
      exact ih v4 H3 h
def L_X5_lineUpFromEnd_68 (r : Nat) (b1 : Int32) (k : Hp → Option (Unit × Hp)) : Nat → Int32 → Hp → Option (Unit × Hp)
  | 0, _, _ => none
  | n + 1, x2, H => if (gI H (r + 2) 1 12) ≤ x2 then k H else gd x2 61 (jn (fun (y13 : Int32) (H14 : Hp) => if y13 = (-1) then vl (x2 + (1 : Int32)) (fun (v16 : Int32) => L_X5_lineUpFromEnd_68 r b1 k n v16 H14) else gd y13 21 (if (gI H14 (r + 2) 31 (Int32.toNatClampNeg y13)) = 0 then bnd (f_X5_lineUp r y13 x2 H14) (fun w20 H19 => vl (x2 + (1 : Int32)) (fun (v21 : Int32) => L_X5_lineUpFromEnd_68 r b1 k n v21 H19)) else vl (x2 + (1 : Int32)) (fun (v18 : Int32) => L_X5_lineUpFromEnd_68 r b1 k n v18 H14))) (fun j12 => if (gI H (r + 2) 27 (Int32.toNatClampNeg x2)) = 0 then j12 (-1) H else gd b1 21 (bnd (f_X5_otherEnd r x2 (gI H (r + 2) 30 (Int32.toNatClampNeg b1)) H) (fun w24 H23 => j12 w24 H23))))
set_option maxRecDepth 100000 in
set_option maxHeartbeats 4000000 in
theorem sL_X5_lineUpFromEnd_68 {p : Program} {l : Launch} {e : Env} {s : State} {m : MethodId} {args : Array Value} {below : List Frame} {meth : Method} {c : Code} {A : Nat → Prop} {D : va_G} {K4 : kQ} {ad : Nat → Nat → Nat} {nr : Nat} {r : Nat} {b1 : Int32} {k : Hp → Option (Unit × Hp)} {res : Unit × Hp} (hC : Cx p s m args c A s.heap D K4 4 RX5 cX5_lineUpFromEnd) (hret : meth.sig.returnType = none ∧ meth.locks = false) (hr_r : r < nr) (hk : ∀ (H : Hp), k H = some res → V p l e ({ frames := 1, cells := 0, slots := 0, locals := 22 }) s m args below meth c A s.heap (QU below args s A D K4 ad nr res) D K4 ad nr 4 130 [(0, .ref (ad (r + 2) 3)), (1, .int b1)] [] H) : ∀ (n : Nat) (x2 : Int32) (H : Hp), L_X5_lineUpFromEnd_68 r b1 k n x2 H = some res → V p l e ({ frames := 1, cells := 0, slots := 0, locals := 22 }) s m args below meth c A s.heap (QU below args s A D K4 ad nr res) D K4 ad nr 4 68 [(0, .ref (ad (r + 2) 3)), (1, .int b1), (2, .int x2)] [] H := by
  intro n
  induction n with
  | zero => intro x2 H h; exact nomatch (show (none : Option (Unit × Hp)) = some res from h)
  | succ n ih =>
    intro x2 H h
    rw [L_X5_lineUpFromEnd_68] at h
    refine V_iload_n hC 2 dX5_lineUpFromEnd_68 rfl ?_
    refine V_aload_n hC 0 dX5_lineUpFromEnd_69 rfl ?_
    refine V_getR (g := (r + 2)) (k := 3) (g' := (r + 2)) (k' := 1) hC 5 0 fl_X5_38 (okR hr_r rfl) rfl rfl rfl dX5_lineUpFromEnd_70 ?_
    refine V_getI (g := (r + 2)) (k := 1) hC 3 12 fl_X5_63 (okR hr_r rfl) rfl rfl dX5_lineUpFromEnd_73 ?_
    refine V_icmp_ge (tgt := 130) hC dX5_lineUpFromEnd_76 (by decide) (fun c11 => ?_) (fun c11 => ?_)
    · have h := it_pos c11 h
      refine V_lv (lv' := [(0, .ref (ad (r + 2) 3)), (1, .int b1)]) [0, 1] rfl ?_
      exact hk H h
    · have h := it_neg c11 h
      refine V_aload_n hC 0 dX5_lineUpFromEnd_79 rfl ?_
      refine V_getR (g := (r + 2)) (k := 3) (g' := (r + 2)) (k' := 27) hC 5 2 fl_X5_15 (okR hr_r rfl) rfl rfl rfl dX5_lineUpFromEnd_80 ?_
      refine V_iload_n hC 2 dX5_lineUpFromEnd_83 rfl ?_
      obtain ⟨hi, h⟩ := gd_some h
      refine V_zald (g := (r + 2)) (k := 27) hC (okR hr_r rfl) rfl hi dX5_lineUpFromEnd_84 ?_
      refine V_jn1 (pj := 103) (lj := fun y13 => [(0, .ref (ad (r + 2) 3)), (1, .int b1), (2, .int x2)]) (sj := fun y13 => [.int y13]) h (fun y13 H14 h => ?_) (fun hj12 h => ?_)
      · refine V_istore_n (lv' := [(3, .int y13), (0, .ref (ad (r + 2) 3)), (1, .int b1), (2, .int x2)]) hC dX5_lineUpFromEnd_103 (Nat.le_of_ble_eq_true rfl) rfl ?_
        refine V_iload_n hC 0 dX5_lineUpFromEnd_104 rfl ?_
        refine V_iconst (v := -1) hC dX5_lineUpFromEnd_105 (by decide) ?_
        refine V_icmp_eq (tgt := 124) hC dX5_lineUpFromEnd_106 (by decide) (fun c15 => ?_) (fun c15 => ?_)
        · have h := it_pos c15 h
          refine V_vi h (fun v16 hvv16 h => ?_)
          refine V_iinc (v := v16) (lv' := [(2, .int v16), (3, .int y13), (0, .ref (ad (r + 2) 3)), (1, .int b1)]) hC 3 dX5_lineUpFromEnd_124 rfl hvv16.symm (Nat.le_of_ble_eq_true rfl) rfl ?_
          refine V_goto (tgt := 68) hC dX5_lineUpFromEnd_127 (by decide) ?_
          refine V_lv (lv' := [(0, .ref (ad (r + 2) 3)), (1, .int b1), (2, .int v16)]) [2, 3, 0] rfl ?_
          exact ih v16 H14 h
        · have h := it_neg c15 h
          refine V_aload_n hC 1 dX5_lineUpFromEnd_109 rfl ?_
          refine V_getR (g := (r + 2)) (k := 3) (g' := (r + 2)) (k' := 31) hC 5 6 fl_X5_28 (okR hr_r rfl) rfl rfl rfl dX5_lineUpFromEnd_110 ?_
          refine V_iload_n hC 0 dX5_lineUpFromEnd_113 rfl ?_
          obtain ⟨hi, h⟩ := gd_some h
          refine V_zald (g := (r + 2)) (k := 31) hC (okR hr_r rfl) rfl hi dX5_lineUpFromEnd_114 ?_
          refine V_if_ne (tgt := 124) hC dX5_lineUpFromEnd_115 (by decide) (fun c17 => ?_) (fun c17 => ?_)
          · have h := it_neg c17 h
            refine V_vi h (fun v18 hvv18 h => ?_)
            refine V_iinc (v := v18) (lv' := [(2, .int v18), (3, .int y13), (0, .ref (ad (r + 2) 3)), (1, .int b1)]) hC 3 dX5_lineUpFromEnd_124 rfl hvv18.symm (Nat.le_of_ble_eq_true rfl) rfl ?_
            refine V_goto (tgt := 68) hC dX5_lineUpFromEnd_127 (by decide) ?_
            refine V_lv (lv' := [(0, .ref (ad (r + 2) 3)), (1, .int b1), (2, .int v18)]) [2, 3, 0] rfl ?_
            exact ih v18 H14 h
          · have h := it_pos c17 h
            refine V_aload_n hC 1 dX5_lineUpFromEnd_118 rfl ?_
            refine V_iload_n hC 0 dX5_lineUpFromEnd_119 rfl ?_
            refine V_iload_n hC 3 dX5_lineUpFromEnd_120 rfl ?_
            obtain ⟨w20, H19, hc, h⟩ := bnd_some h
            refine V_callu (g := (r + 2)) (k := 3) (As := [.int y13, .int x2]) (st := []) hC (c_X5_lineUp l (hr_r := hr_r) hc) rfl ml_X5_86 ⟨Nat.le_of_ble_eq_true rfl, Nat.le_of_ble_eq_true rfl⟩ (okR hr_r rfl) rfl rfl (Nat.le_of_ble_eq_true rfl) dX5_lineUpFromEnd_121 ?_
            refine V_vi h (fun v21 hvv21 h => ?_)
            refine V_iinc (v := v21) (lv' := [(2, .int v21), (3, .int y13), (0, .ref (ad (r + 2) 3)), (1, .int b1)]) hC 3 dX5_lineUpFromEnd_124 rfl hvv21.symm (Nat.le_of_ble_eq_true rfl) rfl ?_
            refine V_goto (tgt := 68) hC dX5_lineUpFromEnd_127 (by decide) ?_
            refine V_lv (lv' := [(0, .ref (ad (r + 2) 3)), (1, .int b1), (2, .int v21)]) [2, 3, 0] rfl ?_
            exact ih v21 H19 h
      · refine V_if_eq (tgt := 102) hC dX5_lineUpFromEnd_85 (by decide) (fun c22 => ?_) (fun c22 => ?_)
        · have h := it_pos c22 h
          refine V_iconst (v := -1) hC dX5_lineUpFromEnd_102 (by decide) ?_
          refine V_lv (lv' := [(0, .ref (ad (r + 2) 3)), (1, .int b1), (2, .int x2)]) [0, 1, 2] rfl ?_
          exact hj12 (-1) H h
        · have h := it_neg c22 h
          refine V_aload_n hC 0 dX5_lineUpFromEnd_88 rfl ?_
          refine V_iload_n hC 2 dX5_lineUpFromEnd_89 rfl ?_
          refine V_aload_n hC 0 dX5_lineUpFromEnd_90 rfl ?_
          refine V_getR (g := (r + 2)) (k := 3) (g' := (r + 2)) (k' := 30) hC 5 5 fl_X5_25 (okR hr_r rfl) rfl rfl rfl dX5_lineUpFromEnd_91 ?_
          refine V_iload_n hC 1 dX5_lineUpFromEnd_94 rfl ?_
          obtain ⟨hi, h⟩ := gd_some h
          refine V_iald (g := (r + 2)) (k := 30) hC (okR hr_r rfl) rfl hi dX5_lineUpFromEnd_95 ?_
          obtain ⟨w24, H23, hc, h⟩ := bnd_some h
          refine V_calli (g := (r + 2)) (k := 3) (As := [.int x2, .int (gI H (r + 2) 30 (Int32.toNatClampNeg b1))]) (st := []) hC (c_X5_otherEnd l (hr_r := hr_r) hc) rfl ml_X5_90 ⟨Nat.le_of_ble_eq_true rfl, Nat.le_of_ble_eq_true rfl⟩ (okR hr_r rfl) rfl rfl (Nat.le_of_ble_eq_true rfl) dX5_lineUpFromEnd_96 ?_
          refine V_goto (tgt := 103) hC dX5_lineUpFromEnd_99 (by decide) ?_
          refine V_lv (lv' := [(0, .ref (ad (r + 2) 3)), (1, .int b1), (2, .int x2)]) [0, 1, 2] rfl ?_
          exact hj12 w24 H23 h
def L_X5_lineUpFromEnd_52 (r : Nat) (k : Hp → Option (Unit × Hp)) : Nat → Int32 → Hp → Option (Unit × Hp)
  | 0, _, _ => none
  | n + 1, x1, H => if (gI H (r + 2) 3 9) ≤ x1 then k H else if 21 ≤ x1 then k H else L_X5_lineUpFromEnd_68 r x1 (fun (H25 : Hp) => vl (x1 + (1 : Int32)) (fun (v26 : Int32) => L_X5_lineUpFromEnd_52 r k n v26 H25)) FU 0 H
set_option maxRecDepth 100000 in
set_option maxHeartbeats 4000000 in
theorem sL_X5_lineUpFromEnd_52 {p : Program} {l : Launch} {e : Env} {s : State} {m : MethodId} {args : Array Value} {below : List Frame} {meth : Method} {c : Code} {A : Nat → Prop} {D : va_G} {K4 : kQ} {ad : Nat → Nat → Nat} {nr : Nat} {r : Nat} {k : Hp → Option (Unit × Hp)} {res : Unit × Hp} (hC : Cx p s m args c A s.heap D K4 4 RX5 cX5_lineUpFromEnd) (hret : meth.sig.returnType = none ∧ meth.locks = false) (hr_r : r < nr) (hk : ∀ (H : Hp), k H = some res → V p l e ({ frames := 1, cells := 0, slots := 0, locals := 22 }) s m args below meth c A s.heap (QU below args s A D K4 ad nr res) D K4 ad nr 4 136 [] [] H) : ∀ (n : Nat) (x1 : Int32) (H : Hp), L_X5_lineUpFromEnd_52 r k n x1 H = some res → V p l e ({ frames := 1, cells := 0, slots := 0, locals := 22 }) s m args below meth c A s.heap (QU below args s A D K4 ad nr res) D K4 ad nr 4 52 [(0, .ref (ad (r + 2) 3)), (1, .int x1)] [] H := by
  intro n
  induction n with
  | zero => intro x1 H h; exact nomatch (show (none : Option (Unit × Hp)) = some res from h)
  | succ n ih =>
    intro x1 H h
    rw [L_X5_lineUpFromEnd_52] at h
    refine V_iload_n hC 1 dX5_lineUpFromEnd_52 rfl ?_
    refine V_aload_n hC 0 dX5_lineUpFromEnd_53 rfl ?_
    refine V_getI (g := (r + 2)) (k := 3) hC 5 9 fl_X5_83 (okR hr_r rfl) rfl rfl dX5_lineUpFromEnd_54 ?_
    refine V_icmp_ge (tgt := 136) hC dX5_lineUpFromEnd_57 (by decide) (fun c9 => ?_) (fun c9 => ?_)
    · have h := it_pos c9 h
      refine V_lv (lv' := []) [] rfl ?_
      exact hk H h
    · have h := it_neg c9 h
      refine V_iload_n hC 1 dX5_lineUpFromEnd_60 rfl ?_
      refine V_bipush (v := 21) hC dX5_lineUpFromEnd_61 (by decide) ?_
      refine V_icmp_ge (tgt := 136) hC dX5_lineUpFromEnd_63 (by decide) (fun c10 => ?_) (fun c10 => ?_)
      · have h := it_pos c10 h
        refine V_lv (lv' := []) [] rfl ?_
        exact hk H h
      · have h := it_neg c10 h
        refine V_iconst (v := 0) hC dX5_lineUpFromEnd_66 (by decide) ?_
        refine V_istore_n (lv' := [(2, .int 0), (0, .ref (ad (r + 2) 3)), (1, .int x1)]) hC dX5_lineUpFromEnd_67 (Nat.le_of_ble_eq_true rfl) rfl ?_
        refine V_lv (lv' := [(0, .ref (ad (r + 2) 3)), (1, .int x1), (2, .int 0)]) [1, 2, 0] rfl ?_
        refine sL_X5_lineUpFromEnd_68 hC hret hr_r (fun H25 h => ?_) _ 0 H h
        refine V_vi h (fun v26 hvv26 h => ?_)
        refine V_iinc (v := v26) (lv' := [(1, .int v26), (0, .ref (ad (r + 2) 3))]) hC 1 dX5_lineUpFromEnd_130 rfl hvv26.symm (Nat.le_of_ble_eq_true rfl) rfl ?_
        refine V_goto (tgt := 52) hC dX5_lineUpFromEnd_133 (by decide) ?_
        refine V_lv (lv' := [(0, .ref (ad (r + 2) 3)), (1, .int v26)]) [1, 0] rfl ?_
        exact ih v26 H25 h
def f_X5_lineUpFromEnd (r : Nat) (H : Hp) : Option (Unit × Hp) := L_X5_lineUpFromEnd_2 r (fun (H5 : Hp) => hl (sI H5 (r + 2) 3 9 0) (fun (H6 : Hp) => bnd (f_X5_lineUp r (gI H6 (r + 2) 1 10) (-1) H6) (fun w8 H7 => L_X5_lineUpFromEnd_52 r (fun (H27 : Hp) => some ((), H27)) FU 0 H7))) FU 0 H
set_option maxRecDepth 100000 in
set_option maxHeartbeats 4000000 in
theorem s_X5_lineUpFromEnd {p : Program} {l : Launch} {e : Env} {s : State} {m : MethodId} {args : Array Value} {below : List Frame} {meth : Method} {c : Code} {A : Nat → Prop} {D : va_G} {K4 : kQ} {ad : Nat → Nat → Nat} {nr : Nat} {r : Nat} {H : Hp} {res : Unit × Hp} (hC : Cx p s m args c A s.heap D K4 4 RX5 cX5_lineUpFromEnd) (hret : meth.sig.returnType = none ∧ meth.locks = false) (hr_r : r < nr) (h : f_X5_lineUpFromEnd r H = some res) : V p l e ({ frames := 1, cells := 0, slots := 0, locals := 22 }) s m args below meth c A s.heap (QU below args s A D K4 ad nr res) D K4 ad nr 4 0 [(0, .ref (ad (r + 2) 3))] [] H := by
  unfold f_X5_lineUpFromEnd at h
  refine V_iconst (v := 0) hC dX5_lineUpFromEnd_0 (by decide) ?_
  refine V_istore_n (lv' := [(1, .int 0), (0, .ref (ad (r + 2) 3))]) hC dX5_lineUpFromEnd_1 (Nat.le_of_ble_eq_true rfl) rfl ?_
  refine V_lv (lv' := [(0, .ref (ad (r + 2) 3)), (1, .int 0)]) [1, 0] rfl ?_
  refine sL_X5_lineUpFromEnd_2 hC hret hr_r (fun H5 h => ?_) _ 0 H h
  refine V_aload_n hC 0 dX5_lineUpFromEnd_33 rfl ?_
  refine V_iconst (v := 0) hC dX5_lineUpFromEnd_34 (by decide) ?_
  refine V_putI (g := (r + 2)) (k := 3) hC 5 9 .int fw_X5_83 (okR hr_r rfl) rfl rfl rfl rfl dX5_lineUpFromEnd_35 ?_
  refine V_hl h (fun H6 h => ?_)
  refine V_aload_n hC 0 dX5_lineUpFromEnd_38 rfl ?_
  refine V_aload_n hC 0 dX5_lineUpFromEnd_39 rfl ?_
  refine V_getR (g := (r + 2)) (k := 3) (g' := (r + 2)) (k' := 1) hC 5 0 fl_X5_38 (okR hr_r rfl) rfl rfl rfl dX5_lineUpFromEnd_40 ?_
  refine V_getI (g := (r + 2)) (k := 1) hC 3 10 fl_X5_60 (okR hr_r rfl) rfl rfl dX5_lineUpFromEnd_43 ?_
  refine V_iconst (v := -1) hC dX5_lineUpFromEnd_46 (by decide) ?_
  obtain ⟨w8, H7, hc, h⟩ := bnd_some h
  refine V_callu (g := (r + 2)) (k := 3) (As := [.int (gI H6 (r + 2) 1 10), .int (-1)]) (st := []) hC (c_X5_lineUp l (hr_r := hr_r) hc) rfl ml_X5_86 ⟨Nat.le_of_ble_eq_true rfl, Nat.le_of_ble_eq_true rfl⟩ (okR hr_r rfl) rfl rfl (Nat.le_of_ble_eq_true rfl) dX5_lineUpFromEnd_47 ?_
  refine V_iconst (v := 0) hC dX5_lineUpFromEnd_50 (by decide) ?_
  refine V_istore_n (lv' := [(1, .int 0), (0, .ref (ad (r + 2) 3))]) hC dX5_lineUpFromEnd_51 (Nat.le_of_ble_eq_true rfl) rfl ?_
  refine V_lv (lv' := [(0, .ref (ad (r + 2) 3)), (1, .int 0)]) [1, 0] rfl ?_
  refine sL_X5_lineUpFromEnd_52 hC hret hr_r (fun H27 h => ?_) _ 0 H7 h
  exact V_vret hC hret dX5_lineUpFromEnd_136 h
theorem c_X5_lineUpFromEnd (l : Launch) {nr : Nat} {r : Nat} (hr_r : r < nr) {H : Hp} {x : Unit} {H' : Hp} (h : f_X5_lineUpFromEnd r H = some (x, H')) : CU l nr yX5_lineUpFromEnd cX5_lineUpFromEnd 4 none 1 22 (fun ad => [.ref (ad (r + 2) 3)]) H x H' := by
  intro D K4 ad sz
  refine Met.ofV (by decide) (Nat.le_of_ble_eq_true rfl) ?_
  intro p e s m args below meth c hC hret hsz
  subst hsz
  exact s_X5_lineUpFromEnd hC hret hr_r h
theorem dX5_grow_0 : decode cX5_grow 0 = .ok (.aload_n 0, 1) := by decide +kernel
theorem dX5_grow_1 : decode cX5_grow 1 = .ok (.invokevirtual 42, 3) := by decide +kernel
theorem dX5_grow_4 : decode cX5_grow 4 = .ok (.aload_n 0, 1) := by decide +kernel
theorem dX5_grow_5 : decode cX5_grow 5 = .ok (.invokevirtual 45, 3) := by decide +kernel
theorem dX5_grow_8 : decode cX5_grow 8 = .ok (.aload_n 0, 1) := by decide +kernel
theorem dX5_grow_9 : decode cX5_grow 9 = .ok (.invokevirtual 48, 3) := by decide +kernel
theorem dX5_grow_12 : decode cX5_grow 12 = .ok (.return_, 1) := by decide +kernel
def f_X5_grow (r : Nat) (H : Hp) : Option (Unit × Hp) := bnd (f_X5_sortByGuess r H) (fun w2 H1 => bnd (f_X5_takeLinks r H1) (fun w4 H3 => bnd (f_X5_lineUpFromEnd r H3) (fun w6 H5 => some ((), H5))))
set_option maxRecDepth 100000 in
set_option maxHeartbeats 4000000 in
theorem s_X5_grow {p : Program} {l : Launch} {e : Env} {s : State} {m : MethodId} {args : Array Value} {below : List Frame} {meth : Method} {c : Code} {A : Nat → Prop} {D : va_G} {K4 : kQ} {ad : Nat → Nat → Nat} {nr : Nat} {r : Nat} {H : Hp} {res : Unit × Hp} (hC : Cx p s m args c A s.heap D K4 1 RX5 cX5_grow) (hret : meth.sig.returnType = none ∧ meth.locks = false) (hr_r : r < nr) (h : f_X5_grow r H = some res) : V p l e ({ frames := 2, cells := 0, slots := 0, locals := 46 }) s m args below meth c A s.heap (QU below args s A D K4 ad nr res) D K4 ad nr 1 0 [(0, .ref (ad (r + 2) 3))] [] H := by
  unfold f_X5_grow at h
  refine V_aload_n hC 0 dX5_grow_0 rfl ?_
  obtain ⟨w2, H1, hc, h⟩ := bnd_some h
  refine V_callu (g := (r + 2)) (k := 3) (As := []) (st := []) hC (c_X5_sortByGuess l (hr_r := hr_r) hc) rfl ml_X5_42 ⟨Nat.le_of_ble_eq_true rfl, Nat.le_of_ble_eq_true rfl⟩ (okR hr_r rfl) rfl rfl (Nat.le_of_ble_eq_true rfl) dX5_grow_1 ?_
  refine V_aload_n hC 0 dX5_grow_4 rfl ?_
  obtain ⟨w4, H3, hc, h⟩ := bnd_some h
  refine V_callu (g := (r + 2)) (k := 3) (As := []) (st := []) hC (c_X5_takeLinks l (hr_r := hr_r) hc) rfl ml_X5_45 ⟨Nat.le_of_ble_eq_true rfl, Nat.le_of_ble_eq_true rfl⟩ (okR hr_r rfl) rfl rfl (Nat.le_of_ble_eq_true rfl) dX5_grow_5 ?_
  refine V_aload_n hC 0 dX5_grow_8 rfl ?_
  obtain ⟨w6, H5, hc, h⟩ := bnd_some h
  refine V_callu (g := (r + 2)) (k := 3) (As := []) (st := []) hC (c_X5_lineUpFromEnd l (hr_r := hr_r) hc) rfl ml_X5_48 ⟨Nat.le_of_ble_eq_true rfl, Nat.le_of_ble_eq_true rfl⟩ (okR hr_r rfl) rfl rfl (Nat.le_of_ble_eq_true rfl) dX5_grow_9 ?_
  exact V_vret hC hret dX5_grow_12 h
theorem c_X5_grow (l : Launch) {nr : Nat} {r : Nat} (hr_r : r < nr) {H : Hp} {x : Unit} {H' : Hp} (h : f_X5_grow r H = some (x, H')) : CU l nr yX5_grow cX5_grow 1 none 2 46 (fun ad => [.ref (ad (r + 2) 3)]) H x H' := by
  intro D K4 ad sz
  refine Met.ofV (by decide) (Nat.le_of_ble_eq_true rfl) ?_
  intro p e s m args below meth c hC hret hsz
  subst hsz
  exact s_X5_grow hC hret hr_r h
theorem dX5_isBelow_0 : decode cX5_isBelow 0 = .ok (.iload_n 1, 1) := by decide +kernel
theorem dX5_isBelow_1 : decode cX5_isBelow 1 = .ok (.istore_n 3, 1) := by decide +kernel
theorem dX5_isBelow_2 : decode cX5_isBelow 2 = .ok (.iconst 0, 1) := by decide +kernel
theorem dX5_isBelow_3 : decode cX5_isBelow 3 = .ok (.istore 4, 2) := by decide +kernel
theorem dX5_isBelow_5 : decode cX5_isBelow 5 = .ok (.iload 4, 2) := by decide +kernel
theorem dX5_isBelow_7 : decode cX5_isBelow 7 = .ok (.aload_n 0, 1) := by decide +kernel
theorem dX5_isBelow_8 : decode cX5_isBelow 8 = .ok (.getfield 38, 3) := by decide +kernel
theorem dX5_isBelow_11 : decode cX5_isBelow 11 = .ok (.getfield 60, 3) := by decide +kernel
theorem dX5_isBelow_14 : decode cX5_isBelow 14 = .ok (.if_icmp .gt 47, 3) := by decide +kernel
theorem dX5_isBelow_17 : decode cX5_isBelow 17 = .ok (.iload_n 3, 1) := by decide +kernel
theorem dX5_isBelow_18 : decode cX5_isBelow 18 = .ok (.iload_n 2, 1) := by decide +kernel
theorem dX5_isBelow_19 : decode cX5_isBelow 19 = .ok (.if_icmp .ne 5, 3) := by decide +kernel
theorem dX5_isBelow_22 : decode cX5_isBelow 22 = .ok (.iconst 1, 1) := by decide +kernel
theorem dX5_isBelow_23 : decode cX5_isBelow 23 = .ok (.ireturn, 1) := by decide +kernel
theorem dX5_isBelow_24 : decode cX5_isBelow 24 = .ok (.aload_n 0, 1) := by decide +kernel
theorem dX5_isBelow_25 : decode cX5_isBelow 25 = .ok (.getfield 22, 3) := by decide +kernel
theorem dX5_isBelow_28 : decode cX5_isBelow 28 = .ok (.iload_n 3, 1) := by decide +kernel
theorem dX5_isBelow_29 : decode cX5_isBelow 29 = .ok (.iaload, 1) := by decide +kernel
theorem dX5_isBelow_30 : decode cX5_isBelow 30 = .ok (.iconst (-1), 1) := by decide +kernel
theorem dX5_isBelow_31 : decode cX5_isBelow 31 = .ok (.if_icmp .ne 5, 3) := by decide +kernel
theorem dX5_isBelow_34 : decode cX5_isBelow 34 = .ok (.iconst 0, 1) := by decide +kernel
theorem dX5_isBelow_35 : decode cX5_isBelow 35 = .ok (.ireturn, 1) := by decide +kernel
theorem dX5_isBelow_36 : decode cX5_isBelow 36 = .ok (.aload_n 0, 1) := by decide +kernel
theorem dX5_isBelow_37 : decode cX5_isBelow 37 = .ok (.aload_n 0, 1) := by decide +kernel
theorem dX5_isBelow_38 : decode cX5_isBelow 38 = .ok (.getfield 22, 3) := by decide +kernel
theorem dX5_isBelow_41 : decode cX5_isBelow 41 = .ok (.iload_n 3, 1) := by decide +kernel
theorem dX5_isBelow_42 : decode cX5_isBelow 42 = .ok (.iaload, 1) := by decide +kernel
theorem dX5_isBelow_43 : decode cX5_isBelow 43 = .ok (.iload_n 3, 1) := by decide +kernel
theorem dX5_isBelow_44 : decode cX5_isBelow 44 = .ok (.invokevirtual 90, 3) := by decide +kernel
theorem dX5_isBelow_47 : decode cX5_isBelow 47 = .ok (.istore_n 3, 1) := by decide +kernel
theorem dX5_isBelow_48 : decode cX5_isBelow 48 = .ok (.iload_n 3, 1) := by decide +kernel
theorem dX5_isBelow_49 : decode cX5_isBelow 49 = .ok (.iconst (-1), 1) := by decide +kernel
theorem dX5_isBelow_50 : decode cX5_isBelow 50 = .ok (.if_icmp .ne 5, 3) := by decide +kernel
theorem dX5_isBelow_53 : decode cX5_isBelow 53 = .ok (.iconst 0, 1) := by decide +kernel
theorem dX5_isBelow_54 : decode cX5_isBelow 54 = .ok (.ireturn, 1) := by decide +kernel
theorem dX5_isBelow_55 : decode cX5_isBelow 55 = .ok (.iinc 4 1, 3) := by decide +kernel
theorem dX5_isBelow_58 : decode cX5_isBelow 58 = .ok (.goto (-53), 3) := by decide +kernel
theorem dX5_isBelow_61 : decode cX5_isBelow 61 = .ok (.iconst 0, 1) := by decide +kernel
theorem dX5_isBelow_62 : decode cX5_isBelow 62 = .ok (.ireturn, 1) := by decide +kernel
def L_X5_isBelow_5 (r : Nat) (b2 : Int32) (k : Hp → Option (Int32 × Hp)) : Nat → Int32 → Int32 → Hp → Option (Int32 × Hp)
  | 0, _, _, _ => none
  | n + 1, x3, x4, H => if (gI H (r + 2) 1 10) < x4 then k H else if x3 = b2 then some (1, H) else gd x3 21 (if (gI H (r + 2) 29 (Int32.toNatClampNeg x3)) = (-1) then some (0, H) else gd x3 21 (bnd (f_X5_otherEnd r (gI H (r + 2) 29 (Int32.toNatClampNeg x3)) x3 H) (fun w5 H4 => if w5 = (-1) then some (0, H4) else vl (x4 + (1 : Int32)) (fun (v7 : Int32) => L_X5_isBelow_5 r b2 k n w5 v7 H4))))
set_option maxRecDepth 100000 in
set_option maxHeartbeats 4000000 in
theorem sL_X5_isBelow_5 {p : Program} {l : Launch} {e : Env} {s : State} {m : MethodId} {args : Array Value} {below : List Frame} {meth : Method} {c : Code} {A : Nat → Prop} {D : va_G} {K4 : kQ} {ad : Nat → Nat → Nat} {nr : Nat} {r : Nat} {b2 : Int32} {k : Hp → Option (Int32 × Hp)} {res : Int32 × Hp} (hC : Cx p s m args c A s.heap D K4 5 RX5 cX5_isBelow) (hret : meth.sig.returnType = (some .boolean) ∧ meth.locks = false) (hr_r : r < nr) (hk : ∀ (H : Hp), k H = some res → V p l e ({ frames := 1, cells := 0, slots := 0, locals := 22 }) s m args below meth c A s.heap (QI below args s A D K4 ad nr res) D K4 ad nr 5 61 [] [] H) : ∀ (n : Nat) (x3 : Int32) (x4 : Int32) (H : Hp), L_X5_isBelow_5 r b2 k n x3 x4 H = some res → V p l e ({ frames := 1, cells := 0, slots := 0, locals := 22 }) s m args below meth c A s.heap (QI below args s A D K4 ad nr res) D K4 ad nr 5 5 [(0, .ref (ad (r + 2) 3)), (2, .int b2), (3, .int x3), (4, .int x4)] [] H := by
  intro n
  induction n with
  | zero => intro x3 x4 H h; exact nomatch (show (none : Option (Int32 × Hp)) = some res from h)
  | succ n ih =>
    intro x3 x4 H h
    rw [L_X5_isBelow_5] at h
    refine V_iload hC 3 dX5_isBelow_5 rfl ?_
    refine V_aload_n hC 0 dX5_isBelow_7 rfl ?_
    refine V_getR (g := (r + 2)) (k := 3) (g' := (r + 2)) (k' := 1) hC 5 0 fl_X5_38 (okR hr_r rfl) rfl rfl rfl dX5_isBelow_8 ?_
    refine V_getI (g := (r + 2)) (k := 1) hC 3 10 fl_X5_60 (okR hr_r rfl) rfl rfl dX5_isBelow_11 ?_
    refine V_icmp_gt (tgt := 61) hC dX5_isBelow_14 (by decide) (fun c1 => ?_) (fun c1 => ?_)
    · have h := it_pos c1 h
      refine V_lv (lv' := []) [] rfl ?_
      exact hk H h
    · have h := it_neg c1 h
      refine V_iload_n hC 2 dX5_isBelow_17 rfl ?_
      refine V_iload_n hC 1 dX5_isBelow_18 rfl ?_
      refine V_icmp_ne (tgt := 24) hC dX5_isBelow_19 (by decide) (fun c2 => ?_) (fun c2 => ?_)
      · have h := it_neg c2 h
        refine V_aload_n hC 0 dX5_isBelow_24 rfl ?_
        refine V_getR (g := (r + 2)) (k := 3) (g' := (r + 2)) (k' := 29) hC 5 4 fl_X5_22 (okR hr_r rfl) rfl rfl rfl dX5_isBelow_25 ?_
        refine V_iload_n hC 2 dX5_isBelow_28 rfl ?_
        obtain ⟨hi, h⟩ := gd_some h
        refine V_iald (g := (r + 2)) (k := 29) hC (okR hr_r rfl) rfl hi dX5_isBelow_29 ?_
        refine V_iconst (v := -1) hC dX5_isBelow_30 (by decide) ?_
        refine V_icmp_ne (tgt := 36) hC dX5_isBelow_31 (by decide) (fun c3 => ?_) (fun c3 => ?_)
        · have h := it_neg c3 h
          refine V_aload_n hC 0 dX5_isBelow_36 rfl ?_
          refine V_aload_n hC 0 dX5_isBelow_37 rfl ?_
          refine V_getR (g := (r + 2)) (k := 3) (g' := (r + 2)) (k' := 29) hC 5 4 fl_X5_22 (okR hr_r rfl) rfl rfl rfl dX5_isBelow_38 ?_
          refine V_iload_n hC 2 dX5_isBelow_41 rfl ?_
          obtain ⟨hi, h⟩ := gd_some h
          refine V_iald (g := (r + 2)) (k := 29) hC (okR hr_r rfl) rfl hi dX5_isBelow_42 ?_
          refine V_iload_n hC 2 dX5_isBelow_43 rfl ?_
          obtain ⟨w5, H4, hc, h⟩ := bnd_some h
          refine V_calli (g := (r + 2)) (k := 3) (As := [.int (gI H (r + 2) 29 (Int32.toNatClampNeg x3)), .int x3]) (st := []) hC (c_X5_otherEnd l (hr_r := hr_r) hc) rfl ml_X5_90 ⟨Nat.le_of_ble_eq_true rfl, Nat.le_of_ble_eq_true rfl⟩ (okR hr_r rfl) rfl rfl (Nat.le_of_ble_eq_true rfl) dX5_isBelow_44 ?_
          refine V_istore_n (lv' := [(3, .int w5), (0, .ref (ad (r + 2) 3)), (2, .int b2), (4, .int x4)]) hC dX5_isBelow_47 (Nat.le_of_ble_eq_true rfl) rfl ?_
          refine V_iload_n hC 0 dX5_isBelow_48 rfl ?_
          refine V_iconst (v := -1) hC dX5_isBelow_49 (by decide) ?_
          refine V_icmp_ne (tgt := 55) hC dX5_isBelow_50 (by decide) (fun c6 => ?_) (fun c6 => ?_)
          · have h := it_neg c6 h
            refine V_vi h (fun v7 hvv7 h => ?_)
            refine V_iinc (v := v7) (lv' := [(4, .int v7), (3, .int w5), (0, .ref (ad (r + 2) 3)), (2, .int b2)]) hC 3 dX5_isBelow_55 rfl hvv7.symm (Nat.le_of_ble_eq_true rfl) rfl ?_
            refine V_goto (tgt := 5) hC dX5_isBelow_58 (by decide) ?_
            refine V_lv (lv' := [(0, .ref (ad (r + 2) 3)), (2, .int b2), (3, .int w5), (4, .int v7)]) [2, 3, 1, 0] rfl ?_
            exact ih w5 v7 H4 h
          · have h := it_pos c6 h
            refine V_iconst (v := 0) hC dX5_isBelow_53 (by decide) ?_
            exact V_zret hC hret (by decide) dX5_isBelow_54 h
        · have h := it_pos c3 h
          refine V_iconst (v := 0) hC dX5_isBelow_34 (by decide) ?_
          exact V_zret hC hret (by decide) dX5_isBelow_35 h
      · have h := it_pos c2 h
        refine V_iconst (v := 1) hC dX5_isBelow_22 (by decide) ?_
        exact V_zret hC hret (by decide) dX5_isBelow_23 h
def f_X5_isBelow (r : Nat) (a1 : Int32) (a2 : Int32) (H : Hp) : Option (Int32 × Hp) := L_X5_isBelow_5 r a2 (fun (H8 : Hp) => some (0, H8)) FU a1 0 H
set_option maxRecDepth 100000 in
set_option maxHeartbeats 4000000 in
theorem s_X5_isBelow {p : Program} {l : Launch} {e : Env} {s : State} {m : MethodId} {args : Array Value} {below : List Frame} {meth : Method} {c : Code} {A : Nat → Prop} {D : va_G} {K4 : kQ} {ad : Nat → Nat → Nat} {nr : Nat} {r : Nat} {a1 : Int32} {a2 : Int32} {H : Hp} {res : Int32 × Hp} (hC : Cx p s m args c A s.heap D K4 5 RX5 cX5_isBelow) (hret : meth.sig.returnType = (some .boolean) ∧ meth.locks = false) (hr_r : r < nr) (h : f_X5_isBelow r a1 a2 H = some res) : V p l e ({ frames := 1, cells := 0, slots := 0, locals := 22 }) s m args below meth c A s.heap (QI below args s A D K4 ad nr res) D K4 ad nr 5 0 [(0, .ref (ad (r + 2) 3)), (1, .int a1), (2, .int a2)] [] H := by
  unfold f_X5_isBelow at h
  refine V_iload_n hC 1 dX5_isBelow_0 rfl ?_
  refine V_istore_n (lv' := [(3, .int a1), (0, .ref (ad (r + 2) 3)), (1, .int a1), (2, .int a2)]) hC dX5_isBelow_1 (Nat.le_of_ble_eq_true rfl) rfl ?_
  refine V_iconst (v := 0) hC dX5_isBelow_2 (by decide) ?_
  refine V_istore (lv' := [(4, .int 0), (3, .int a1), (0, .ref (ad (r + 2) 3)), (1, .int a1), (2, .int a2)]) hC dX5_isBelow_3 (Nat.le_of_ble_eq_true rfl) rfl ?_
  refine V_lv (lv' := [(0, .ref (ad (r + 2) 3)), (2, .int a2), (3, .int a1), (4, .int 0)]) [2, 4, 1, 0] rfl ?_
  refine sL_X5_isBelow_5 hC hret hr_r (fun H8 h => ?_) _ a1 0 H h
  refine V_iconst (v := 0) hC dX5_isBelow_61 (by decide) ?_
  exact V_zret hC hret (by decide) dX5_isBelow_62 h
theorem c_X5_isBelow (l : Launch) {nr : Nat} {r : Nat} (hr_r : r < nr) {a1 : Int32} {a2 : Int32} {H : Hp} {x : Int32} {H' : Hp} (h : f_X5_isBelow r a1 a2 H = some (x, H')) : CI l nr yX5_isBelow cX5_isBelow 5 (some .boolean) 1 22 (fun ad => [.ref (ad (r + 2) 3), .int a1, .int a2]) H x H' := by
  intro D K4 ad sz
  refine Met.ofV (by decide) (Nat.le_of_ble_eq_true rfl) ?_
  intro p e s m args below meth c hC hret hsz
  subst hsz
  exact s_X5_isBelow hC hret hr_r h
theorem dX5_placeInRing_0 : decode cX5_placeInRing 0 = .ok (.iload_n 1, 1) := by decide +kernel
theorem dX5_placeInRing_1 : decode cX5_placeInRing 1 = .ok (.iload_n 2, 1) := by decide +kernel
theorem dX5_placeInRing_2 : decode cX5_placeInRing 2 = .ok (.if_icmp .ne 5, 3) := by decide +kernel
theorem dX5_placeInRing_5 : decode cX5_placeInRing 5 = .ok (.iconst 1, 1) := by decide +kernel
theorem dX5_placeInRing_6 : decode cX5_placeInRing 6 = .ok (.ireturn, 1) := by decide +kernel
theorem dX5_placeInRing_7 : decode cX5_placeInRing 7 = .ok (.aload_n 0, 1) := by decide +kernel
theorem dX5_placeInRing_8 : decode cX5_placeInRing 8 = .ok (.getfield 15, 3) := by decide +kernel
theorem dX5_placeInRing_11 : decode cX5_placeInRing 11 = .ok (.iload_n 2, 1) := by decide +kernel
theorem dX5_placeInRing_12 : decode cX5_placeInRing 12 = .ok (.baload, 1) := by decide +kernel
theorem dX5_placeInRing_13 : decode cX5_placeInRing 13 = .ok (.ifCond .ne 5, 3) := by decide +kernel
theorem dX5_placeInRing_16 : decode cX5_placeInRing 16 = .ok (.iconst 0, 1) := by decide +kernel
theorem dX5_placeInRing_17 : decode cX5_placeInRing 17 = .ok (.ireturn, 1) := by decide +kernel
theorem dX5_placeInRing_18 : decode cX5_placeInRing 18 = .ok (.aload_n 0, 1) := by decide +kernel
theorem dX5_placeInRing_19 : decode cX5_placeInRing 19 = .ok (.getfield 22, 3) := by decide +kernel
theorem dX5_placeInRing_22 : decode cX5_placeInRing 22 = .ok (.aload_n 0, 1) := by decide +kernel
theorem dX5_placeInRing_23 : decode cX5_placeInRing 23 = .ok (.getfield 38, 3) := by decide +kernel
theorem dX5_placeInRing_26 : decode cX5_placeInRing 26 = .ok (.getfield 77, 3) := by decide +kernel
theorem dX5_placeInRing_29 : decode cX5_placeInRing 29 = .ok (.iload_n 2, 1) := by decide +kernel
theorem dX5_placeInRing_30 : decode cX5_placeInRing 30 = .ok (.iaload, 1) := by decide +kernel
theorem dX5_placeInRing_31 : decode cX5_placeInRing 31 = .ok (.iaload, 1) := by decide +kernel
theorem dX5_placeInRing_32 : decode cX5_placeInRing 32 = .ok (.iload_n 2, 1) := by decide +kernel
theorem dX5_placeInRing_33 : decode cX5_placeInRing 33 = .ok (.if_icmp .ne 15, 3) := by decide +kernel
theorem dX5_placeInRing_36 : decode cX5_placeInRing 36 = .ok (.aload_n 0, 1) := by decide +kernel
theorem dX5_placeInRing_37 : decode cX5_placeInRing 37 = .ok (.getfield 38, 3) := by decide +kernel
theorem dX5_placeInRing_40 : decode cX5_placeInRing 40 = .ok (.getfield 77, 3) := by decide +kernel
theorem dX5_placeInRing_43 : decode cX5_placeInRing 43 = .ok (.iload_n 2, 1) := by decide +kernel
theorem dX5_placeInRing_44 : decode cX5_placeInRing 44 = .ok (.iaload, 1) := by decide +kernel
theorem dX5_placeInRing_45 : decode cX5_placeInRing 45 = .ok (.goto 12, 3) := by decide +kernel
theorem dX5_placeInRing_48 : decode cX5_placeInRing 48 = .ok (.aload_n 0, 1) := by decide +kernel
theorem dX5_placeInRing_49 : decode cX5_placeInRing 49 = .ok (.getfield 38, 3) := by decide +kernel
theorem dX5_placeInRing_52 : decode cX5_placeInRing 52 = .ok (.getfield 80, 3) := by decide +kernel
theorem dX5_placeInRing_55 : decode cX5_placeInRing 55 = .ok (.iload_n 2, 1) := by decide +kernel
theorem dX5_placeInRing_56 : decode cX5_placeInRing 56 = .ok (.iaload, 1) := by decide +kernel
theorem dX5_placeInRing_57 : decode cX5_placeInRing 57 = .ok (.istore_n 3, 1) := by decide +kernel
theorem dX5_placeInRing_58 : decode cX5_placeInRing 58 = .ok (.aload_n 0, 1) := by decide +kernel
theorem dX5_placeInRing_59 : decode cX5_placeInRing 59 = .ok (.aload_n 0, 1) := by decide +kernel
theorem dX5_placeInRing_60 : decode cX5_placeInRing 60 = .ok (.getfield 38, 3) := by decide +kernel
theorem dX5_placeInRing_63 : decode cX5_placeInRing 63 = .ok (.getfield 80, 3) := by decide +kernel
theorem dX5_placeInRing_66 : decode cX5_placeInRing 66 = .ok (.iload_n 1, 1) := by decide +kernel
theorem dX5_placeInRing_67 : decode cX5_placeInRing 67 = .ok (.iaload, 1) := by decide +kernel
theorem dX5_placeInRing_68 : decode cX5_placeInRing 68 = .ok (.iload_n 3, 1) := by decide +kernel
theorem dX5_placeInRing_69 : decode cX5_placeInRing 69 = .ok (.invokevirtual 94, 3) := by decide +kernel
theorem dX5_placeInRing_72 : decode cX5_placeInRing 72 = .ok (.istore 4, 2) := by decide +kernel
theorem dX5_placeInRing_74 : decode cX5_placeInRing 74 = .ok (.iload 4, 2) := by decide +kernel
theorem dX5_placeInRing_76 : decode cX5_placeInRing 76 = .ok (.aload_n 0, 1) := by decide +kernel
theorem dX5_placeInRing_77 : decode cX5_placeInRing 77 = .ok (.aload_n 0, 1) := by decide +kernel
theorem dX5_placeInRing_78 : decode cX5_placeInRing 78 = .ok (.getfield 38, 3) := by decide +kernel
theorem dX5_placeInRing_81 : decode cX5_placeInRing 81 = .ok (.getfield 77, 3) := by decide +kernel
theorem dX5_placeInRing_84 : decode cX5_placeInRing 84 = .ok (.iload_n 1, 1) := by decide +kernel
theorem dX5_placeInRing_85 : decode cX5_placeInRing 85 = .ok (.iaload, 1) := by decide +kernel
theorem dX5_placeInRing_86 : decode cX5_placeInRing 86 = .ok (.iload_n 3, 1) := by decide +kernel
theorem dX5_placeInRing_87 : decode cX5_placeInRing 87 = .ok (.invokevirtual 94, 3) := by decide +kernel
theorem dX5_placeInRing_90 : decode cX5_placeInRing 90 = .ok (.if_icmp .ne 5, 3) := by decide +kernel
theorem dX5_placeInRing_93 : decode cX5_placeInRing 93 = .ok (.iconst 0, 1) := by decide +kernel
theorem dX5_placeInRing_94 : decode cX5_placeInRing 94 = .ok (.ireturn, 1) := by decide +kernel
theorem dX5_placeInRing_95 : decode cX5_placeInRing 95 = .ok (.iload 4, 2) := by decide +kernel
theorem dX5_placeInRing_97 : decode cX5_placeInRing 97 = .ok (.aload_n 0, 1) := by decide +kernel
theorem dX5_placeInRing_98 : decode cX5_placeInRing 98 = .ok (.getfield 38, 3) := by decide +kernel
theorem dX5_placeInRing_101 : decode cX5_placeInRing 101 = .ok (.getfield 77, 3) := by decide +kernel
theorem dX5_placeInRing_104 : decode cX5_placeInRing 104 = .ok (.iload_n 2, 1) := by decide +kernel
theorem dX5_placeInRing_105 : decode cX5_placeInRing 105 = .ok (.iaload, 1) := by decide +kernel
theorem dX5_placeInRing_106 : decode cX5_placeInRing 106 = .ok (.iload_n 3, 1) := by decide +kernel
theorem dX5_placeInRing_107 : decode cX5_placeInRing 107 = .ok (.if_icmp .ne 7, 3) := by decide +kernel
theorem dX5_placeInRing_110 : decode cX5_placeInRing 110 = .ok (.iconst 1, 1) := by decide +kernel
theorem dX5_placeInRing_111 : decode cX5_placeInRing 111 = .ok (.goto 4, 3) := by decide +kernel
theorem dX5_placeInRing_114 : decode cX5_placeInRing 114 = .ok (.iconst 0, 1) := by decide +kernel
theorem dX5_placeInRing_115 : decode cX5_placeInRing 115 = .ok (.if_icmp .ne 7, 3) := by decide +kernel
theorem dX5_placeInRing_118 : decode cX5_placeInRing 118 = .ok (.iconst 1, 1) := by decide +kernel
theorem dX5_placeInRing_119 : decode cX5_placeInRing 119 = .ok (.goto 4, 3) := by decide +kernel
theorem dX5_placeInRing_122 : decode cX5_placeInRing 122 = .ok (.iconst 2, 1) := by decide +kernel
theorem dX5_placeInRing_123 : decode cX5_placeInRing 123 = .ok (.ireturn, 1) := by decide +kernel
def f_X5_placeInRing (r : Nat) (a1 : Int32) (a2 : Int32) (H : Hp) : Option (Int32 × Hp) := if a1 = a2 then some (1, H) else gd a2 61 (if (gI H (r + 2) 27 (Int32.toNatClampNeg a2)) = 0 then some (0, H) else gd a2 61 (gd (gI H (r + 2) 13 (Int32.toNatClampNeg a2)) 21 (jn (fun (y4 : Int32) (H5 : Hp) => gd a1 61 (bnd (f_X5_isBelow r (gI H5 (r + 2) 14 (Int32.toNatClampNeg a1)) y4 H5) (fun w7 H6 => gd a1 61 (bnd (f_X5_isBelow r (gI H6 (r + 2) 13 (Int32.toNatClampNeg a1)) y4 H6) (fun w9 H8 => if w7 = w9 then some (0, H8) else gd a2 61 (if (gI H8 (r + 2) 13 (Int32.toNatClampNeg a2)) = y4 then if w7 = 1 then some (1, H8) else some (2, H8) else if w7 = 0 then some (1, H8) else some (2, H8))))))) (fun j3 => if (gI H (r + 2) 29 (Int32.toNatClampNeg (gI H (r + 2) 13 (Int32.toNatClampNeg a2)))) = a2 then gd a2 61 (j3 ((gI H (r + 2) 13 (Int32.toNatClampNeg a2))) H) else gd a2 61 (j3 ((gI H (r + 2) 14 (Int32.toNatClampNeg a2))) H)))))
set_option maxRecDepth 100000 in
set_option maxHeartbeats 4000000 in
theorem s_X5_placeInRing {p : Program} {l : Launch} {e : Env} {s : State} {m : MethodId} {args : Array Value} {below : List Frame} {meth : Method} {c : Code} {A : Nat → Prop} {D : va_G} {K4 : kQ} {ad : Nat → Nat → Nat} {nr : Nat} {r : Nat} {a1 : Int32} {a2 : Int32} {H : Hp} {res : Int32 × Hp} (hC : Cx p s m args c A s.heap D K4 5 RX5 cX5_placeInRing) (hret : meth.sig.returnType = (some .int) ∧ meth.locks = false) (hr_r : r < nr) (h : f_X5_placeInRing r a1 a2 H = some res) : V p l e ({ frames := 2, cells := 0, slots := 0, locals := 46 }) s m args below meth c A s.heap (QI below args s A D K4 ad nr res) D K4 ad nr 5 0 [(0, .ref (ad (r + 2) 3)), (1, .int a1), (2, .int a2)] [] H := by
  unfold f_X5_placeInRing at h
  refine V_iload_n hC 1 dX5_placeInRing_0 rfl ?_
  refine V_iload_n hC 2 dX5_placeInRing_1 rfl ?_
  refine V_icmp_ne (tgt := 7) hC dX5_placeInRing_2 (by decide) (fun c1 => ?_) (fun c1 => ?_)
  · have h := it_neg c1 h
    refine V_aload_n hC 0 dX5_placeInRing_7 rfl ?_
    refine V_getR (g := (r + 2)) (k := 3) (g' := (r + 2)) (k' := 27) hC 5 2 fl_X5_15 (okR hr_r rfl) rfl rfl rfl dX5_placeInRing_8 ?_
    refine V_iload_n hC 2 dX5_placeInRing_11 rfl ?_
    obtain ⟨hi, h⟩ := gd_some h
    refine V_zald (g := (r + 2)) (k := 27) hC (okR hr_r rfl) rfl hi dX5_placeInRing_12 ?_
    refine V_if_ne (tgt := 18) hC dX5_placeInRing_13 (by decide) (fun c2 => ?_) (fun c2 => ?_)
    · have h := it_neg c2 h
      refine V_aload_n hC 0 dX5_placeInRing_18 rfl ?_
      refine V_getR (g := (r + 2)) (k := 3) (g' := (r + 2)) (k' := 29) hC 5 4 fl_X5_22 (okR hr_r rfl) rfl rfl rfl dX5_placeInRing_19 ?_
      refine V_aload_n hC 0 dX5_placeInRing_22 rfl ?_
      refine V_getR (g := (r + 2)) (k := 3) (g' := (r + 2)) (k' := 1) hC 5 0 fl_X5_38 (okR hr_r rfl) rfl rfl rfl dX5_placeInRing_23 ?_
      refine V_getR (g := (r + 2)) (k := 1) (g' := (r + 2)) (k' := 13) hC 3 5 fl_X5_77 (okR hr_r rfl) rfl rfl rfl dX5_placeInRing_26 ?_
      refine V_iload_n hC 2 dX5_placeInRing_29 rfl ?_
      obtain ⟨hi, h⟩ := gd_some h
      refine V_iald (g := (r + 2)) (k := 13) hC (okR hr_r rfl) rfl hi dX5_placeInRing_30 ?_
      obtain ⟨hi, h⟩ := gd_some h
      refine V_iald (g := (r + 2)) (k := 29) hC (okR hr_r rfl) rfl hi dX5_placeInRing_31 ?_
      refine V_iload_n hC 2 dX5_placeInRing_32 rfl ?_
      refine V_jn1 (pj := 57) (lj := fun y4 => [(0, .ref (ad (r + 2) 3)), (1, .int a1), (2, .int a2)]) (sj := fun y4 => [.int y4]) h (fun y4 H5 h => ?_) (fun hj3 h => ?_)
      · refine V_istore_n (lv' := [(3, .int y4), (0, .ref (ad (r + 2) 3)), (1, .int a1), (2, .int a2)]) hC dX5_placeInRing_57 (Nat.le_of_ble_eq_true rfl) rfl ?_
        refine V_aload_n hC 1 dX5_placeInRing_58 rfl ?_
        refine V_aload_n hC 1 dX5_placeInRing_59 rfl ?_
        refine V_getR (g := (r + 2)) (k := 3) (g' := (r + 2)) (k' := 1) hC 5 0 fl_X5_38 (okR hr_r rfl) rfl rfl rfl dX5_placeInRing_60 ?_
        refine V_getR (g := (r + 2)) (k := 1) (g' := (r + 2)) (k' := 14) hC 3 6 fl_X5_80 (okR hr_r rfl) rfl rfl rfl dX5_placeInRing_63 ?_
        refine V_iload_n hC 2 dX5_placeInRing_66 rfl ?_
        obtain ⟨hi, h⟩ := gd_some h
        refine V_iald (g := (r + 2)) (k := 14) hC (okR hr_r rfl) rfl hi dX5_placeInRing_67 ?_
        refine V_iload_n hC 0 dX5_placeInRing_68 rfl ?_
        obtain ⟨w7, H6, hc, h⟩ := bnd_some h
        refine V_calli (g := (r + 2)) (k := 3) (As := [.int (gI H5 (r + 2) 14 (Int32.toNatClampNeg a1)), .int y4]) (st := []) hC (c_X5_isBelow l (hr_r := hr_r) hc) rfl ml_X5_94 ⟨Nat.le_of_ble_eq_true rfl, Nat.le_of_ble_eq_true rfl⟩ (okR hr_r rfl) rfl rfl (Nat.le_of_ble_eq_true rfl) dX5_placeInRing_69 ?_
        refine V_istore (lv' := [(4, .int w7), (3, .int y4), (0, .ref (ad (r + 2) 3)), (1, .int a1), (2, .int a2)]) hC dX5_placeInRing_72 (Nat.le_of_ble_eq_true rfl) rfl ?_
        refine V_iload hC 0 dX5_placeInRing_74 rfl ?_
        refine V_aload_n hC 2 dX5_placeInRing_76 rfl ?_
        refine V_aload_n hC 2 dX5_placeInRing_77 rfl ?_
        refine V_getR (g := (r + 2)) (k := 3) (g' := (r + 2)) (k' := 1) hC 5 0 fl_X5_38 (okR hr_r rfl) rfl rfl rfl dX5_placeInRing_78 ?_
        refine V_getR (g := (r + 2)) (k := 1) (g' := (r + 2)) (k' := 13) hC 3 5 fl_X5_77 (okR hr_r rfl) rfl rfl rfl dX5_placeInRing_81 ?_
        refine V_iload_n hC 3 dX5_placeInRing_84 rfl ?_
        obtain ⟨hi, h⟩ := gd_some h
        refine V_iald (g := (r + 2)) (k := 13) hC (okR hr_r rfl) rfl hi dX5_placeInRing_85 ?_
        refine V_iload_n hC 1 dX5_placeInRing_86 rfl ?_
        obtain ⟨w9, H8, hc, h⟩ := bnd_some h
        refine V_calli (g := (r + 2)) (k := 3) (As := [.int (gI H6 (r + 2) 13 (Int32.toNatClampNeg a1)), .int y4]) (st := [.int w7]) hC (c_X5_isBelow l (hr_r := hr_r) hc) rfl ml_X5_94 ⟨Nat.le_of_ble_eq_true rfl, Nat.le_of_ble_eq_true rfl⟩ (okR hr_r rfl) rfl rfl (Nat.le_of_ble_eq_true rfl) dX5_placeInRing_87 ?_
        refine V_icmp_ne (tgt := 95) hC dX5_placeInRing_90 (by decide) (fun c10 => ?_) (fun c10 => ?_)
        · have h := it_neg c10 h
          refine V_iload hC 0 dX5_placeInRing_95 rfl ?_
          refine V_aload_n hC 2 dX5_placeInRing_97 rfl ?_
          refine V_getR (g := (r + 2)) (k := 3) (g' := (r + 2)) (k' := 1) hC 5 0 fl_X5_38 (okR hr_r rfl) rfl rfl rfl dX5_placeInRing_98 ?_
          refine V_getR (g := (r + 2)) (k := 1) (g' := (r + 2)) (k' := 13) hC 3 5 fl_X5_77 (okR hr_r rfl) rfl rfl rfl dX5_placeInRing_101 ?_
          refine V_iload_n hC 4 dX5_placeInRing_104 rfl ?_
          obtain ⟨hi, h⟩ := gd_some h
          refine V_iald (g := (r + 2)) (k := 13) hC (okR hr_r rfl) rfl hi dX5_placeInRing_105 ?_
          refine V_iload_n hC 1 dX5_placeInRing_106 rfl ?_
          refine V_icmp_ne (tgt := 114) hC dX5_placeInRing_107 (by decide) (fun c11 => ?_) (fun c11 => ?_)
          · have h := it_neg c11 h
            refine V_iconst (v := 0) hC dX5_placeInRing_114 (by decide) ?_
            refine V_icmp_ne (tgt := 122) hC dX5_placeInRing_115 (by decide) (fun c12 => ?_) (fun c12 => ?_)
            · have h := it_neg c12 h
              refine V_iconst (v := 2) hC dX5_placeInRing_122 (by decide) ?_
              exact V_iret hC hret dX5_placeInRing_123 h
            · have h := it_pos c12 h
              refine V_iconst (v := 1) hC dX5_placeInRing_118 (by decide) ?_
              refine V_goto (tgt := 123) hC dX5_placeInRing_119 (by decide) ?_
              exact V_iret hC hret dX5_placeInRing_123 h
          · have h := it_pos c11 h
            refine V_iconst (v := 1) hC dX5_placeInRing_110 (by decide) ?_
            refine V_goto (tgt := 115) hC dX5_placeInRing_111 (by decide) ?_
            refine V_icmp_ne (tgt := 122) hC dX5_placeInRing_115 (by decide) (fun c13 => ?_) (fun c13 => ?_)
            · have h := it_neg c13 h
              refine V_iconst (v := 2) hC dX5_placeInRing_122 (by decide) ?_
              exact V_iret hC hret dX5_placeInRing_123 h
            · have h := it_pos c13 h
              refine V_iconst (v := 1) hC dX5_placeInRing_118 (by decide) ?_
              refine V_goto (tgt := 123) hC dX5_placeInRing_119 (by decide) ?_
              exact V_iret hC hret dX5_placeInRing_123 h
        · have h := it_pos c10 h
          refine V_iconst (v := 0) hC dX5_placeInRing_93 (by decide) ?_
          exact V_iret hC hret dX5_placeInRing_94 h
      · refine V_icmp_ne (tgt := 48) hC dX5_placeInRing_33 (by decide) (fun c14 => ?_) (fun c14 => ?_)
        · have h := it_neg c14 h
          refine V_aload_n hC 0 dX5_placeInRing_48 rfl ?_
          refine V_getR (g := (r + 2)) (k := 3) (g' := (r + 2)) (k' := 1) hC 5 0 fl_X5_38 (okR hr_r rfl) rfl rfl rfl dX5_placeInRing_49 ?_
          refine V_getR (g := (r + 2)) (k := 1) (g' := (r + 2)) (k' := 14) hC 3 6 fl_X5_80 (okR hr_r rfl) rfl rfl rfl dX5_placeInRing_52 ?_
          refine V_iload_n hC 2 dX5_placeInRing_55 rfl ?_
          obtain ⟨hi, h⟩ := gd_some h
          refine V_iald (g := (r + 2)) (k := 14) hC (okR hr_r rfl) rfl hi dX5_placeInRing_56 ?_
          refine V_lv (lv' := [(0, .ref (ad (r + 2) 3)), (1, .int a1), (2, .int a2)]) [0, 1, 2] rfl ?_
          exact hj3 ((gI H (r + 2) 14 (Int32.toNatClampNeg a2))) H h
        · have h := it_pos c14 h
          refine V_aload_n hC 0 dX5_placeInRing_36 rfl ?_
          refine V_getR (g := (r + 2)) (k := 3) (g' := (r + 2)) (k' := 1) hC 5 0 fl_X5_38 (okR hr_r rfl) rfl rfl rfl dX5_placeInRing_37 ?_
          refine V_getR (g := (r + 2)) (k := 1) (g' := (r + 2)) (k' := 13) hC 3 5 fl_X5_77 (okR hr_r rfl) rfl rfl rfl dX5_placeInRing_40 ?_
          refine V_iload_n hC 2 dX5_placeInRing_43 rfl ?_
          obtain ⟨hi, h⟩ := gd_some h
          refine V_iald (g := (r + 2)) (k := 13) hC (okR hr_r rfl) rfl hi dX5_placeInRing_44 ?_
          refine V_goto (tgt := 57) hC dX5_placeInRing_45 (by decide) ?_
          refine V_lv (lv' := [(0, .ref (ad (r + 2) 3)), (1, .int a1), (2, .int a2)]) [0, 1, 2] rfl ?_
          exact hj3 ((gI H (r + 2) 13 (Int32.toNatClampNeg a2))) H h
    · have h := it_pos c2 h
      refine V_iconst (v := 0) hC dX5_placeInRing_16 (by decide) ?_
      exact V_iret hC hret dX5_placeInRing_17 h
  · have h := it_pos c1 h
    refine V_iconst (v := 1) hC dX5_placeInRing_5 (by decide) ?_
    exact V_iret hC hret dX5_placeInRing_6 h
theorem c_X5_placeInRing (l : Launch) {nr : Nat} {r : Nat} (hr_r : r < nr) {a1 : Int32} {a2 : Int32} {H : Hp} {x : Int32} {H' : Hp} (h : f_X5_placeInRing r a1 a2 H = some (x, H')) : CI l nr yX5_placeInRing cX5_placeInRing 5 (some .int) 2 46 (fun ad => [.ref (ad (r + 2) 3), .int a1, .int a2]) H x H' := by
  intro D K4 ad sz
  refine Met.ofV (by decide) (Nat.le_of_ble_eq_true rfl) ?_
  intro p e s m args below meth c hC hret hsz
  subst hsz
  exact s_X5_placeInRing hC hret hr_r h
theorem dX5_carry_0 : decode cX5_carry 0 = .ok (.aload_n 0, 1) := by decide +kernel
theorem dX5_carry_1 : decode cX5_carry 1 = .ok (.getfield 35, 3) := by decide +kernel
theorem dX5_carry_4 : decode cX5_carry 4 = .ok (.iload_n 1, 1) := by decide +kernel
theorem dX5_carry_5 : decode cX5_carry 5 = .ok (.lload_n 2, 1) := by decide +kernel
theorem dX5_carry_6 : decode cX5_carry 6 = .ok (.lastore, 1) := by decide +kernel
theorem dX5_carry_7 : decode cX5_carry 7 = .ok (.aload_n 0, 1) := by decide +kernel
theorem dX5_carry_8 : decode cX5_carry 8 = .ok (.getfield 31, 3) := by decide +kernel
theorem dX5_carry_11 : decode cX5_carry 11 = .ok (.aload_n 0, 1) := by decide +kernel
theorem dX5_carry_12 : decode cX5_carry 12 = .ok (.getfield 38, 3) := by decide +kernel
theorem dX5_carry_15 : decode cX5_carry 15 = .ok (.getfield 77, 3) := by decide +kernel
theorem dX5_carry_18 : decode cX5_carry 18 = .ok (.iload_n 1, 1) := by decide +kernel
theorem dX5_carry_19 : decode cX5_carry 19 = .ok (.iaload, 1) := by decide +kernel
theorem dX5_carry_20 : decode cX5_carry 20 = .ok (.dup2, 1) := by decide +kernel
theorem dX5_carry_21 : decode cX5_carry 21 = .ok (.laload, 1) := by decide +kernel
theorem dX5_carry_22 : decode cX5_carry 22 = .ok (.lload_n 2, 1) := by decide +kernel
theorem dX5_carry_23 : decode cX5_carry 23 = .ok (.lsub, 1) := by decide +kernel
theorem dX5_carry_24 : decode cX5_carry 24 = .ok (.lastore, 1) := by decide +kernel
theorem dX5_carry_25 : decode cX5_carry 25 = .ok (.aload_n 0, 1) := by decide +kernel
theorem dX5_carry_26 : decode cX5_carry 26 = .ok (.getfield 31, 3) := by decide +kernel
theorem dX5_carry_29 : decode cX5_carry 29 = .ok (.aload_n 0, 1) := by decide +kernel
theorem dX5_carry_30 : decode cX5_carry 30 = .ok (.getfield 38, 3) := by decide +kernel
theorem dX5_carry_33 : decode cX5_carry 33 = .ok (.getfield 80, 3) := by decide +kernel
theorem dX5_carry_36 : decode cX5_carry 36 = .ok (.iload_n 1, 1) := by decide +kernel
theorem dX5_carry_37 : decode cX5_carry 37 = .ok (.iaload, 1) := by decide +kernel
theorem dX5_carry_38 : decode cX5_carry 38 = .ok (.dup2, 1) := by decide +kernel
theorem dX5_carry_39 : decode cX5_carry 39 = .ok (.laload, 1) := by decide +kernel
theorem dX5_carry_40 : decode cX5_carry 40 = .ok (.lload_n 2, 1) := by decide +kernel
theorem dX5_carry_41 : decode cX5_carry 41 = .ok (.ladd, 1) := by decide +kernel
theorem dX5_carry_42 : decode cX5_carry 42 = .ok (.lastore, 1) := by decide +kernel
theorem dX5_carry_43 : decode cX5_carry 43 = .ok (.return_, 1) := by decide +kernel
def f_X5_carry (r : Nat) (a1 : Int32) (a2 : Int64) (H : Hp) : Option (Unit × Hp) := gd a1 61 (hl (sJ H (r + 2) 33 (Int32.toNatClampNeg a1) a2) (fun (H1 : Hp) => gd a1 61 (gd (gI H1 (r + 2) 13 (Int32.toNatClampNeg a1)) 21 (gd (gI H1 (r + 2) 13 (Int32.toNatClampNeg a1)) 21 (hl (sJ H1 (r + 2) 32 (Int32.toNatClampNeg (gI H1 (r + 2) 13 (Int32.toNatClampNeg a1))) ((gJ H1 (r + 2) 32 (Int32.toNatClampNeg (gI H1 (r + 2) 13 (Int32.toNatClampNeg a1)))) - a2)) (fun (H2 : Hp) => gd a1 61 (gd (gI H2 (r + 2) 14 (Int32.toNatClampNeg a1)) 21 (gd (gI H2 (r + 2) 14 (Int32.toNatClampNeg a1)) 21 (hl (sJ H2 (r + 2) 32 (Int32.toNatClampNeg (gI H2 (r + 2) 14 (Int32.toNatClampNeg a1))) ((gJ H2 (r + 2) 32 (Int32.toNatClampNeg (gI H2 (r + 2) 14 (Int32.toNatClampNeg a1)))) + a2)) (fun (H3 : Hp) => some ((), H3)))))))))))
set_option maxRecDepth 100000 in
set_option maxHeartbeats 4000000 in
theorem s_X5_carry {p : Program} {l : Launch} {e : Env} {s : State} {m : MethodId} {args : Array Value} {below : List Frame} {meth : Method} {c : Code} {A : Nat → Prop} {D : va_G} {K4 : kQ} {ad : Nat → Nat → Nat} {nr : Nat} {r : Nat} {a1 : Int32} {a2 : Int64} {H : Hp} {res : Unit × Hp} (hC : Cx p s m args c A s.heap D K4 4 RX5 cX5_carry) (hret : meth.sig.returnType = none ∧ meth.locks = false) (hr_r : r < nr) (h : f_X5_carry r a1 a2 H = some res) : V p l e ({ frames := 0, cells := 0, slots := 0, locals := 0 }) s m args below meth c A s.heap (QU below args s A D K4 ad nr res) D K4 ad nr 4 0 [(0, .ref (ad (r + 2) 3)), (1, .int a1), (2, .long a2)] [] H := by
  unfold f_X5_carry at h
  refine V_aload_n hC 0 dX5_carry_0 rfl ?_
  refine V_getR (g := (r + 2)) (k := 3) (g' := (r + 2)) (k' := 33) hC 5 8 fl_X5_35 (okR hr_r rfl) rfl rfl rfl dX5_carry_1 ?_
  refine V_iload_n hC 1 dX5_carry_4 rfl ?_
  refine V_lload_n hC 2 dX5_carry_5 rfl ?_
  obtain ⟨hi, h⟩ := gd_some h
  refine V_last (g := (r + 2)) (k := 33) hC (okR hr_r rfl) rfl hi dX5_carry_6 ?_
  refine V_hl h (fun H1 h => ?_)
  refine V_aload_n hC 0 dX5_carry_7 rfl ?_
  refine V_getR (g := (r + 2)) (k := 3) (g' := (r + 2)) (k' := 32) hC 5 7 fl_X5_31 (okR hr_r rfl) rfl rfl rfl dX5_carry_8 ?_
  refine V_aload_n hC 0 dX5_carry_11 rfl ?_
  refine V_getR (g := (r + 2)) (k := 3) (g' := (r + 2)) (k' := 1) hC 5 0 fl_X5_38 (okR hr_r rfl) rfl rfl rfl dX5_carry_12 ?_
  refine V_getR (g := (r + 2)) (k := 1) (g' := (r + 2)) (k' := 13) hC 3 5 fl_X5_77 (okR hr_r rfl) rfl rfl rfl dX5_carry_15 ?_
  refine V_iload_n hC 1 dX5_carry_18 rfl ?_
  obtain ⟨hi, h⟩ := gd_some h
  refine V_iald (g := (r + 2)) (k := 13) hC (okR hr_r rfl) rfl hi dX5_carry_19 ?_
  refine V_dup2 hC dX5_carry_20 rfl rfl ?_
  obtain ⟨hi, h⟩ := gd_some h
  refine V_lald (g := (r + 2)) (k := 32) hC (okR hr_r rfl) rfl hi dX5_carry_21 ?_
  refine V_lload_n hC 2 dX5_carry_22 rfl ?_
  refine V_lsub hC dX5_carry_23 ?_
  obtain ⟨hi, h⟩ := gd_some h
  refine V_last (g := (r + 2)) (k := 32) hC (okR hr_r rfl) rfl hi dX5_carry_24 ?_
  refine V_hl h (fun H2 h => ?_)
  refine V_aload_n hC 0 dX5_carry_25 rfl ?_
  refine V_getR (g := (r + 2)) (k := 3) (g' := (r + 2)) (k' := 32) hC 5 7 fl_X5_31 (okR hr_r rfl) rfl rfl rfl dX5_carry_26 ?_
  refine V_aload_n hC 0 dX5_carry_29 rfl ?_
  refine V_getR (g := (r + 2)) (k := 3) (g' := (r + 2)) (k' := 1) hC 5 0 fl_X5_38 (okR hr_r rfl) rfl rfl rfl dX5_carry_30 ?_
  refine V_getR (g := (r + 2)) (k := 1) (g' := (r + 2)) (k' := 14) hC 3 6 fl_X5_80 (okR hr_r rfl) rfl rfl rfl dX5_carry_33 ?_
  refine V_iload_n hC 1 dX5_carry_36 rfl ?_
  obtain ⟨hi, h⟩ := gd_some h
  refine V_iald (g := (r + 2)) (k := 14) hC (okR hr_r rfl) rfl hi dX5_carry_37 ?_
  refine V_dup2 hC dX5_carry_38 rfl rfl ?_
  obtain ⟨hi, h⟩ := gd_some h
  refine V_lald (g := (r + 2)) (k := 32) hC (okR hr_r rfl) rfl hi dX5_carry_39 ?_
  refine V_lload_n hC 2 dX5_carry_40 rfl ?_
  refine V_ladd hC dX5_carry_41 ?_
  obtain ⟨hi, h⟩ := gd_some h
  refine V_last (g := (r + 2)) (k := 32) hC (okR hr_r rfl) rfl hi dX5_carry_42 ?_
  refine V_hl h (fun H3 h => ?_)
  exact V_vret hC hret dX5_carry_43 h
theorem c_X5_carry (l : Launch) {nr : Nat} {r : Nat} (hr_r : r < nr) {a1 : Int32} {a2 : Int64} {H : Hp} {x : Unit} {H' : Hp} (h : f_X5_carry r a1 a2 H = some (x, H')) : CU l nr yX5_carry cX5_carry 4 none 0 0 (fun ad => [.ref (ad (r + 2) 3), .int a1, .long a2]) H x H' := by
  intro D K4 ad sz
  refine Met.ofV (by decide) (Nat.le_of_ble_eq_true rfl) ?_
  intro p e s m args below meth c hC hret hsz
  subst hsz
  exact s_X5_carry hC hret hr_r h
theorem dX5_rebuild_0 : decode cX5_rebuild 0 = .ok (.iconst 0, 1) := by decide +kernel
theorem dX5_rebuild_1 : decode cX5_rebuild 1 = .ok (.istore_n 3, 1) := by decide +kernel
theorem dX5_rebuild_2 : decode cX5_rebuild 2 = .ok (.iload_n 3, 1) := by decide +kernel
theorem dX5_rebuild_3 : decode cX5_rebuild 3 = .ok (.aload_n 0, 1) := by decide +kernel
theorem dX5_rebuild_4 : decode cX5_rebuild 4 = .ok (.getfield 38, 3) := by decide +kernel
theorem dX5_rebuild_7 : decode cX5_rebuild 7 = .ok (.getfield 60, 3) := by decide +kernel
theorem dX5_rebuild_10 : decode cX5_rebuild 10 = .ok (.if_icmp .ge 19, 3) := by decide +kernel
theorem dX5_rebuild_13 : decode cX5_rebuild 13 = .ok (.aload_n 0, 1) := by decide +kernel
theorem dX5_rebuild_14 : decode cX5_rebuild 14 = .ok (.getfield 31, 3) := by decide +kernel
theorem dX5_rebuild_17 : decode cX5_rebuild 17 = .ok (.iload_n 3, 1) := by decide +kernel
theorem dX5_rebuild_18 : decode cX5_rebuild 18 = .ok (.aload_n 2, 1) := by decide +kernel
theorem dX5_rebuild_19 : decode cX5_rebuild 19 = .ok (.iload_n 3, 1) := by decide +kernel
theorem dX5_rebuild_20 : decode cX5_rebuild 20 = .ok (.laload, 1) := by decide +kernel
theorem dX5_rebuild_21 : decode cX5_rebuild 21 = .ok (.lneg, 1) := by decide +kernel
theorem dX5_rebuild_22 : decode cX5_rebuild 22 = .ok (.lastore, 1) := by decide +kernel
theorem dX5_rebuild_23 : decode cX5_rebuild 23 = .ok (.iinc 3 1, 3) := by decide +kernel
theorem dX5_rebuild_26 : decode cX5_rebuild 26 = .ok (.goto (-24), 3) := by decide +kernel
theorem dX5_rebuild_29 : decode cX5_rebuild 29 = .ok (.aload_n 0, 1) := by decide +kernel
theorem dX5_rebuild_30 : decode cX5_rebuild 30 = .ok (.getfield 31, 3) := by decide +kernel
theorem dX5_rebuild_33 : decode cX5_rebuild 33 = .ok (.aload_n 0, 1) := by decide +kernel
theorem dX5_rebuild_34 : decode cX5_rebuild 34 = .ok (.getfield 38, 3) := by decide +kernel
theorem dX5_rebuild_37 : decode cX5_rebuild 37 = .ok (.getfield 60, 3) := by decide +kernel
theorem dX5_rebuild_40 : decode cX5_rebuild 40 = .ok (.lconst 0, 1) := by decide +kernel
theorem dX5_rebuild_41 : decode cX5_rebuild 41 = .ok (.lastore, 1) := by decide +kernel
theorem dX5_rebuild_42 : decode cX5_rebuild 42 = .ok (.iconst 0, 1) := by decide +kernel
theorem dX5_rebuild_43 : decode cX5_rebuild 43 = .ok (.istore_n 3, 1) := by decide +kernel
theorem dX5_rebuild_44 : decode cX5_rebuild 44 = .ok (.iload_n 3, 1) := by decide +kernel
theorem dX5_rebuild_45 : decode cX5_rebuild 45 = .ok (.aload_n 0, 1) := by decide +kernel
theorem dX5_rebuild_46 : decode cX5_rebuild 46 = .ok (.getfield 38, 3) := by decide +kernel
theorem dX5_rebuild_49 : decode cX5_rebuild 49 = .ok (.getfield 51, 3) := by decide +kernel
theorem dX5_rebuild_52 : decode cX5_rebuild 52 = .ok (.if_icmp .ge 26, 3) := by decide +kernel
theorem dX5_rebuild_55 : decode cX5_rebuild 55 = .ok (.aload_n 0, 1) := by decide +kernel
theorem dX5_rebuild_56 : decode cX5_rebuild 56 = .ok (.getfield 15, 3) := by decide +kernel
theorem dX5_rebuild_59 : decode cX5_rebuild 59 = .ok (.iload_n 3, 1) := by decide +kernel
theorem dX5_rebuild_60 : decode cX5_rebuild 60 = .ok (.baload, 1) := by decide +kernel
theorem dX5_rebuild_61 : decode cX5_rebuild 61 = .ok (.ifCond .ne 11, 3) := by decide +kernel
theorem dX5_rebuild_64 : decode cX5_rebuild 64 = .ok (.aload_n 0, 1) := by decide +kernel
theorem dX5_rebuild_65 : decode cX5_rebuild 65 = .ok (.iload_n 3, 1) := by decide +kernel
theorem dX5_rebuild_66 : decode cX5_rebuild 66 = .ok (.aload_n 1, 1) := by decide +kernel
theorem dX5_rebuild_67 : decode cX5_rebuild 67 = .ok (.iload_n 3, 1) := by decide +kernel
theorem dX5_rebuild_68 : decode cX5_rebuild 68 = .ok (.laload, 1) := by decide +kernel
theorem dX5_rebuild_69 : decode cX5_rebuild 69 = .ok (.invokevirtual 98, 3) := by decide +kernel
theorem dX5_rebuild_72 : decode cX5_rebuild 72 = .ok (.iinc 3 1, 3) := by decide +kernel
theorem dX5_rebuild_75 : decode cX5_rebuild 75 = .ok (.goto (-31), 3) := by decide +kernel
theorem dX5_rebuild_78 : decode cX5_rebuild 78 = .ok (.aload_n 0, 1) := by decide +kernel
theorem dX5_rebuild_79 : decode cX5_rebuild 79 = .ok (.getfield 83, 3) := by decide +kernel
theorem dX5_rebuild_82 : decode cX5_rebuild 82 = .ok (.iconst 1, 1) := by decide +kernel
theorem dX5_rebuild_83 : decode cX5_rebuild 83 = .ok (.isub, 1) := by decide +kernel
theorem dX5_rebuild_84 : decode cX5_rebuild 84 = .ok (.istore_n 3, 1) := by decide +kernel
theorem dX5_rebuild_85 : decode cX5_rebuild 85 = .ok (.iload_n 3, 1) := by decide +kernel
theorem dX5_rebuild_86 : decode cX5_rebuild 86 = .ok (.ifCond .le 71, 3) := by decide +kernel
theorem dX5_rebuild_89 : decode cX5_rebuild 89 = .ok (.aload_n 0, 1) := by decide +kernel
theorem dX5_rebuild_90 : decode cX5_rebuild 90 = .ok (.getfield 25, 3) := by decide +kernel
theorem dX5_rebuild_93 : decode cX5_rebuild 93 = .ok (.iload_n 3, 1) := by decide +kernel
theorem dX5_rebuild_94 : decode cX5_rebuild 94 = .ok (.iaload, 1) := by decide +kernel
theorem dX5_rebuild_95 : decode cX5_rebuild 95 = .ok (.istore 4, 2) := by decide +kernel
theorem dX5_rebuild_97 : decode cX5_rebuild 97 = .ok (.aload_n 0, 1) := by decide +kernel
theorem dX5_rebuild_98 : decode cX5_rebuild 98 = .ok (.getfield 22, 3) := by decide +kernel
theorem dX5_rebuild_101 : decode cX5_rebuild 101 = .ok (.iload 4, 2) := by decide +kernel
theorem dX5_rebuild_103 : decode cX5_rebuild 103 = .ok (.iaload, 1) := by decide +kernel
theorem dX5_rebuild_104 : decode cX5_rebuild 104 = .ok (.istore 5, 2) := by decide +kernel
theorem dX5_rebuild_106 : decode cX5_rebuild 106 = .ok (.iload 5, 2) := by decide +kernel
theorem dX5_rebuild_108 : decode cX5_rebuild 108 = .ok (.iconst (-1), 1) := by decide +kernel
theorem dX5_rebuild_109 : decode cX5_rebuild 109 = .ok (.if_icmp .eq 42, 3) := by decide +kernel
theorem dX5_rebuild_112 : decode cX5_rebuild 112 = .ok (.aload_n 0, 1) := by decide +kernel
theorem dX5_rebuild_113 : decode cX5_rebuild 113 = .ok (.iload 5, 2) := by decide +kernel
theorem dX5_rebuild_115 : decode cX5_rebuild 115 = .ok (.aload_n 0, 1) := by decide +kernel
theorem dX5_rebuild_116 : decode cX5_rebuild 116 = .ok (.getfield 38, 3) := by decide +kernel
theorem dX5_rebuild_119 : decode cX5_rebuild 119 = .ok (.getfield 77, 3) := by decide +kernel
theorem dX5_rebuild_122 : decode cX5_rebuild 122 = .ok (.iload 5, 2) := by decide +kernel
theorem dX5_rebuild_124 : decode cX5_rebuild 124 = .ok (.iaload, 1) := by decide +kernel
theorem dX5_rebuild_125 : decode cX5_rebuild 125 = .ok (.iload 4, 2) := by decide +kernel
theorem dX5_rebuild_127 : decode cX5_rebuild 127 = .ok (.if_icmp .ne 13, 3) := by decide +kernel
theorem dX5_rebuild_130 : decode cX5_rebuild 130 = .ok (.aload_n 0, 1) := by decide +kernel
theorem dX5_rebuild_131 : decode cX5_rebuild 131 = .ok (.getfield 31, 3) := by decide +kernel
theorem dX5_rebuild_134 : decode cX5_rebuild 134 = .ok (.iload 4, 2) := by decide +kernel
theorem dX5_rebuild_136 : decode cX5_rebuild 136 = .ok (.laload, 1) := by decide +kernel
theorem dX5_rebuild_137 : decode cX5_rebuild 137 = .ok (.goto 11, 3) := by decide +kernel
theorem dX5_rebuild_140 : decode cX5_rebuild 140 = .ok (.aload_n 0, 1) := by decide +kernel
theorem dX5_rebuild_141 : decode cX5_rebuild 141 = .ok (.getfield 31, 3) := by decide +kernel
theorem dX5_rebuild_144 : decode cX5_rebuild 144 = .ok (.iload 4, 2) := by decide +kernel
theorem dX5_rebuild_146 : decode cX5_rebuild 146 = .ok (.laload, 1) := by decide +kernel
theorem dX5_rebuild_147 : decode cX5_rebuild 147 = .ok (.lneg, 1) := by decide +kernel
theorem dX5_rebuild_148 : decode cX5_rebuild 148 = .ok (.invokevirtual 98, 3) := by decide +kernel
theorem dX5_rebuild_151 : decode cX5_rebuild 151 = .ok (.iinc 3 (-1), 3) := by decide +kernel
theorem dX5_rebuild_154 : decode cX5_rebuild 154 = .ok (.goto (-69), 3) := by decide +kernel
theorem dX5_rebuild_157 : decode cX5_rebuild 157 = .ok (.return_, 1) := by decide +kernel
def L_X5_rebuild_2 (r : Nat) (k : Hp → Option (Unit × Hp)) : Nat → Int32 → Hp → Option (Unit × Hp)
  | 0, _, _ => none
  | n + 1, x3, H => if (gI H (r + 2) 1 10) ≤ x3 then k H else gd x3 20 (gd x3 21 (hl (sJ H (r + 2) 32 (Int32.toNatClampNeg x3) (-(gJ H (r + 2) 7 (Int32.toNatClampNeg x3)))) (fun (H2 : Hp) => vl (x3 + (1 : Int32)) (fun (v3 : Int32) => L_X5_rebuild_2 r k n v3 H2))))
set_option maxRecDepth 100000 in
set_option maxHeartbeats 4000000 in
theorem sL_X5_rebuild_2 {p : Program} {l : Launch} {e : Env} {s : State} {m : MethodId} {args : Array Value} {below : List Frame} {meth : Method} {c : Code} {A : Nat → Prop} {D : va_G} {K4 : kQ} {ad : Nat → Nat → Nat} {nr : Nat} {r : Nat} {k : Hp → Option (Unit × Hp)} {res : Unit × Hp} (hC : Cx p s m args c A s.heap D K4 6 RX5 cX5_rebuild) (hret : meth.sig.returnType = none ∧ meth.locks = false) (hr_r : r < nr) (hk : ∀ (H : Hp), k H = some res → V p l e ({ frames := 1, cells := 0, slots := 0, locals := 23 }) s m args below meth c A s.heap (QU below args s A D K4 ad nr res) D K4 ad nr 6 29 [(0, .ref (ad (r + 2) 3)), (1, .ref (ad (r + 2) 35))] [] H) : ∀ (n : Nat) (x3 : Int32) (H : Hp), L_X5_rebuild_2 r k n x3 H = some res → V p l e ({ frames := 1, cells := 0, slots := 0, locals := 23 }) s m args below meth c A s.heap (QU below args s A D K4 ad nr res) D K4 ad nr 6 2 [(0, .ref (ad (r + 2) 3)), (1, .ref (ad (r + 2) 35)), (2, .ref (ad (r + 2) 7)), (3, .int x3)] [] H := by
  intro n
  induction n with
  | zero => intro x3 H h; exact nomatch (show (none : Option (Unit × Hp)) = some res from h)
  | succ n ih =>
    intro x3 H h
    rw [L_X5_rebuild_2] at h
    refine V_iload_n hC 3 dX5_rebuild_2 rfl ?_
    refine V_aload_n hC 0 dX5_rebuild_3 rfl ?_
    refine V_getR (g := (r + 2)) (k := 3) (g' := (r + 2)) (k' := 1) hC 5 0 fl_X5_38 (okR hr_r rfl) rfl rfl rfl dX5_rebuild_4 ?_
    refine V_getI (g := (r + 2)) (k := 1) hC 3 10 fl_X5_60 (okR hr_r rfl) rfl rfl dX5_rebuild_7 ?_
    refine V_icmp_ge (tgt := 29) hC dX5_rebuild_10 (by decide) (fun c1 => ?_) (fun c1 => ?_)
    · have h := it_pos c1 h
      refine V_lv (lv' := [(0, .ref (ad (r + 2) 3)), (1, .ref (ad (r + 2) 35))]) [0, 1] rfl ?_
      exact hk H h
    · have h := it_neg c1 h
      refine V_aload_n hC 0 dX5_rebuild_13 rfl ?_
      refine V_getR (g := (r + 2)) (k := 3) (g' := (r + 2)) (k' := 32) hC 5 7 fl_X5_31 (okR hr_r rfl) rfl rfl rfl dX5_rebuild_14 ?_
      refine V_iload_n hC 3 dX5_rebuild_17 rfl ?_
      refine V_aload_n hC 2 dX5_rebuild_18 rfl ?_
      refine V_iload_n hC 3 dX5_rebuild_19 rfl ?_
      obtain ⟨hi, h⟩ := gd_some h
      refine V_lald (g := (r + 2)) (k := 7) hC (okR hr_r rfl) rfl hi dX5_rebuild_20 ?_
      refine V_lneg hC dX5_rebuild_21 ?_
      obtain ⟨hi, h⟩ := gd_some h
      refine V_last (g := (r + 2)) (k := 32) hC (okR hr_r rfl) rfl hi dX5_rebuild_22 ?_
      refine V_hl h (fun H2 h => ?_)
      refine V_vi h (fun v3 hvv3 h => ?_)
      refine V_iinc (v := v3) (lv' := [(3, .int v3), (0, .ref (ad (r + 2) 3)), (1, .ref (ad (r + 2) 35)), (2, .ref (ad (r + 2) 7))]) hC 3 dX5_rebuild_23 rfl hvv3.symm (Nat.le_of_ble_eq_true rfl) rfl ?_
      refine V_goto (tgt := 2) hC dX5_rebuild_26 (by decide) ?_
      refine V_lv (lv' := [(0, .ref (ad (r + 2) 3)), (1, .ref (ad (r + 2) 35)), (2, .ref (ad (r + 2) 7)), (3, .int v3)]) [1, 2, 3, 0] rfl ?_
      exact ih v3 H2 h
def L_X5_rebuild_44 (r : Nat) (k : Hp → Option (Unit × Hp)) : Nat → Int32 → Hp → Option (Unit × Hp)
  | 0, _, _ => none
  | n + 1, x3, H => if (gI H (r + 2) 1 11) ≤ x3 then k H else gd x3 61 (if (gI H (r + 2) 27 (Int32.toNatClampNeg x3)) = 0 then gd x3 40 (bnd (f_X5_carry r x3 (gJ H (r + 2) 35 (Int32.toNatClampNeg x3)) H) (fun w10 H9 => vl (x3 + (1 : Int32)) (fun (v11 : Int32) => L_X5_rebuild_44 r k n v11 H9))) else vl (x3 + (1 : Int32)) (fun (v8 : Int32) => L_X5_rebuild_44 r k n v8 H))
set_option maxRecDepth 100000 in
set_option maxHeartbeats 4000000 in
theorem sL_X5_rebuild_44 {p : Program} {l : Launch} {e : Env} {s : State} {m : MethodId} {args : Array Value} {below : List Frame} {meth : Method} {c : Code} {A : Nat → Prop} {D : va_G} {K4 : kQ} {ad : Nat → Nat → Nat} {nr : Nat} {r : Nat} {k : Hp → Option (Unit × Hp)} {res : Unit × Hp} (hC : Cx p s m args c A s.heap D K4 6 RX5 cX5_rebuild) (hret : meth.sig.returnType = none ∧ meth.locks = false) (hr_r : r < nr) (hk : ∀ (H : Hp), k H = some res → V p l e ({ frames := 1, cells := 0, slots := 0, locals := 23 }) s m args below meth c A s.heap (QU below args s A D K4 ad nr res) D K4 ad nr 6 78 [(0, .ref (ad (r + 2) 3))] [] H) : ∀ (n : Nat) (x3 : Int32) (H : Hp), L_X5_rebuild_44 r k n x3 H = some res → V p l e ({ frames := 1, cells := 0, slots := 0, locals := 23 }) s m args below meth c A s.heap (QU below args s A D K4 ad nr res) D K4 ad nr 6 44 [(0, .ref (ad (r + 2) 3)), (1, .ref (ad (r + 2) 35)), (3, .int x3)] [] H := by
  intro n
  induction n with
  | zero => intro x3 H h; exact nomatch (show (none : Option (Unit × Hp)) = some res from h)
  | succ n ih =>
    intro x3 H h
    rw [L_X5_rebuild_44] at h
    refine V_iload_n hC 2 dX5_rebuild_44 rfl ?_
    refine V_aload_n hC 0 dX5_rebuild_45 rfl ?_
    refine V_getR (g := (r + 2)) (k := 3) (g' := (r + 2)) (k' := 1) hC 5 0 fl_X5_38 (okR hr_r rfl) rfl rfl rfl dX5_rebuild_46 ?_
    refine V_getI (g := (r + 2)) (k := 1) hC 3 11 fl_X5_51 (okR hr_r rfl) rfl rfl dX5_rebuild_49 ?_
    refine V_icmp_ge (tgt := 78) hC dX5_rebuild_52 (by decide) (fun c6 => ?_) (fun c6 => ?_)
    · have h := it_pos c6 h
      refine V_lv (lv' := [(0, .ref (ad (r + 2) 3))]) [0] rfl ?_
      exact hk H h
    · have h := it_neg c6 h
      refine V_aload_n hC 0 dX5_rebuild_55 rfl ?_
      refine V_getR (g := (r + 2)) (k := 3) (g' := (r + 2)) (k' := 27) hC 5 2 fl_X5_15 (okR hr_r rfl) rfl rfl rfl dX5_rebuild_56 ?_
      refine V_iload_n hC 2 dX5_rebuild_59 rfl ?_
      obtain ⟨hi, h⟩ := gd_some h
      refine V_zald (g := (r + 2)) (k := 27) hC (okR hr_r rfl) rfl hi dX5_rebuild_60 ?_
      refine V_if_ne (tgt := 72) hC dX5_rebuild_61 (by decide) (fun c7 => ?_) (fun c7 => ?_)
      · have h := it_neg c7 h
        refine V_vi h (fun v8 hvv8 h => ?_)
        refine V_iinc (v := v8) (lv' := [(3, .int v8), (0, .ref (ad (r + 2) 3)), (1, .ref (ad (r + 2) 35))]) hC 2 dX5_rebuild_72 rfl hvv8.symm (Nat.le_of_ble_eq_true rfl) rfl ?_
        refine V_goto (tgt := 44) hC dX5_rebuild_75 (by decide) ?_
        refine V_lv (lv' := [(0, .ref (ad (r + 2) 3)), (1, .ref (ad (r + 2) 35)), (3, .int v8)]) [1, 2, 0] rfl ?_
        exact ih v8 H h
      · have h := it_pos c7 h
        refine V_aload_n hC 0 dX5_rebuild_64 rfl ?_
        refine V_iload_n hC 2 dX5_rebuild_65 rfl ?_
        refine V_aload_n hC 1 dX5_rebuild_66 rfl ?_
        refine V_iload_n hC 2 dX5_rebuild_67 rfl ?_
        obtain ⟨hi, h⟩ := gd_some h
        refine V_lald (g := (r + 2)) (k := 35) hC (okR hr_r rfl) rfl hi dX5_rebuild_68 ?_
        obtain ⟨w10, H9, hc, h⟩ := bnd_some h
        refine V_callu (g := (r + 2)) (k := 3) (As := [.int x3, .long (gJ H (r + 2) 35 (Int32.toNatClampNeg x3))]) (st := []) hC (c_X5_carry l (hr_r := hr_r) hc) rfl ml_X5_98 ⟨Nat.le_of_ble_eq_true rfl, Nat.le_of_ble_eq_true rfl⟩ (okR hr_r rfl) rfl rfl (Nat.le_of_ble_eq_true rfl) dX5_rebuild_69 ?_
        refine V_vi h (fun v11 hvv11 h => ?_)
        refine V_iinc (v := v11) (lv' := [(3, .int v11), (0, .ref (ad (r + 2) 3)), (1, .ref (ad (r + 2) 35))]) hC 2 dX5_rebuild_72 rfl hvv11.symm (Nat.le_of_ble_eq_true rfl) rfl ?_
        refine V_goto (tgt := 44) hC dX5_rebuild_75 (by decide) ?_
        refine V_lv (lv' := [(0, .ref (ad (r + 2) 3)), (1, .ref (ad (r + 2) 35)), (3, .int v11)]) [1, 2, 0] rfl ?_
        exact ih v11 H9 h
def L_X5_rebuild_85 (r : Nat) (k : Hp → Option (Unit × Hp)) : Nat → Int32 → Hp → Option (Unit × Hp)
  | 0, _, _ => none
  | n + 1, x3, H => if x3 ≤ 0 then k H else gd x3 21 (vl ((gI H (r + 2) 30 (Int32.toNatClampNeg x3))) (fun (v15 : Int32) => gd v15 21 (vl ((gI H (r + 2) 29 (Int32.toNatClampNeg v15))) (fun (v16 : Int32) => if v16 = (-1) then vl (x3 + (-1 : Int32)) (fun (v18 : Int32) => L_X5_rebuild_85 r k n v18 H) else gd v16 61 (if (gI H (r + 2) 13 (Int32.toNatClampNeg v16)) = v15 then gd v15 21 (bnd (f_X5_carry r v16 (gJ H (r + 2) 32 (Int32.toNatClampNeg v15)) H) (fun w24 H23 => vl (x3 + (-1 : Int32)) (fun (v25 : Int32) => L_X5_rebuild_85 r k n v25 H23))) else gd v15 21 (bnd (f_X5_carry r v16 (-(gJ H (r + 2) 32 (Int32.toNatClampNeg v15))) H) (fun w21 H20 => vl (x3 + (-1 : Int32)) (fun (v22 : Int32) => L_X5_rebuild_85 r k n v22 H20))))))))
set_option maxRecDepth 100000 in
set_option maxHeartbeats 4000000 in
theorem sL_X5_rebuild_85 {p : Program} {l : Launch} {e : Env} {s : State} {m : MethodId} {args : Array Value} {below : List Frame} {meth : Method} {c : Code} {A : Nat → Prop} {D : va_G} {K4 : kQ} {ad : Nat → Nat → Nat} {nr : Nat} {r : Nat} {k : Hp → Option (Unit × Hp)} {res : Unit × Hp} (hC : Cx p s m args c A s.heap D K4 6 RX5 cX5_rebuild) (hret : meth.sig.returnType = none ∧ meth.locks = false) (hr_r : r < nr) (hk : ∀ (H : Hp), k H = some res → V p l e ({ frames := 1, cells := 0, slots := 0, locals := 23 }) s m args below meth c A s.heap (QU below args s A D K4 ad nr res) D K4 ad nr 6 157 [] [] H) : ∀ (n : Nat) (x3 : Int32) (H : Hp), L_X5_rebuild_85 r k n x3 H = some res → V p l e ({ frames := 1, cells := 0, slots := 0, locals := 23 }) s m args below meth c A s.heap (QU below args s A D K4 ad nr res) D K4 ad nr 6 85 [(0, .ref (ad (r + 2) 3)), (3, .int x3)] [] H := by
  intro n
  induction n with
  | zero => intro x3 H h; exact nomatch (show (none : Option (Unit × Hp)) = some res from h)
  | succ n ih =>
    intro x3 H h
    rw [L_X5_rebuild_85] at h
    refine V_iload_n hC 1 dX5_rebuild_85 rfl ?_
    refine V_if_le (tgt := 157) hC dX5_rebuild_86 (by decide) (fun c14 => ?_) (fun c14 => ?_)
    · have h := it_pos c14 h
      refine V_lv (lv' := []) [] rfl ?_
      exact hk H h
    · have h := it_neg c14 h
      refine V_aload_n hC 0 dX5_rebuild_89 rfl ?_
      refine V_getR (g := (r + 2)) (k := 3) (g' := (r + 2)) (k' := 30) hC 5 5 fl_X5_25 (okR hr_r rfl) rfl rfl rfl dX5_rebuild_90 ?_
      refine V_iload_n hC 1 dX5_rebuild_93 rfl ?_
      obtain ⟨hi, h⟩ := gd_some h
      refine V_iald (g := (r + 2)) (k := 30) hC (okR hr_r rfl) rfl hi dX5_rebuild_94 ?_
      refine V_vlI h (fun v15 h => ?_)
      refine V_istore (lv' := [(4, .int v15), (0, .ref (ad (r + 2) 3)), (3, .int x3)]) hC dX5_rebuild_95 (Nat.le_of_ble_eq_true rfl) rfl ?_
      refine V_aload_n hC 1 dX5_rebuild_97 rfl ?_
      refine V_getR (g := (r + 2)) (k := 3) (g' := (r + 2)) (k' := 29) hC 5 4 fl_X5_22 (okR hr_r rfl) rfl rfl rfl dX5_rebuild_98 ?_
      refine V_iload hC 0 dX5_rebuild_101 rfl ?_
      obtain ⟨hi, h⟩ := gd_some h
      refine V_iald (g := (r + 2)) (k := 29) hC (okR hr_r rfl) rfl hi dX5_rebuild_103 ?_
      refine V_vlI h (fun v16 h => ?_)
      refine V_istore (lv' := [(5, .int v16), (4, .int v15), (0, .ref (ad (r + 2) 3)), (3, .int x3)]) hC dX5_rebuild_104 (Nat.le_of_ble_eq_true rfl) rfl ?_
      refine V_iload hC 0 dX5_rebuild_106 rfl ?_
      refine V_iconst (v := -1) hC dX5_rebuild_108 (by decide) ?_
      refine V_icmp_eq (tgt := 151) hC dX5_rebuild_109 (by decide) (fun c17 => ?_) (fun c17 => ?_)
      · have h := it_pos c17 h
        refine V_vi h (fun v18 hvv18 h => ?_)
        refine V_iinc (v := v18) (lv' := [(3, .int v18), (5, .int v16), (4, .int v15), (0, .ref (ad (r + 2) 3))]) hC 3 dX5_rebuild_151 rfl hvv18.symm (Nat.le_of_ble_eq_true rfl) rfl ?_
        refine V_goto (tgt := 85) hC dX5_rebuild_154 (by decide) ?_
        refine V_lv (lv' := [(0, .ref (ad (r + 2) 3)), (3, .int v18)]) [3, 0] rfl ?_
        exact ih v18 H h
      · have h := it_neg c17 h
        refine V_aload_n hC 2 dX5_rebuild_112 rfl ?_
        refine V_iload hC 0 dX5_rebuild_113 rfl ?_
        refine V_aload_n hC 2 dX5_rebuild_115 rfl ?_
        refine V_getR (g := (r + 2)) (k := 3) (g' := (r + 2)) (k' := 1) hC 5 0 fl_X5_38 (okR hr_r rfl) rfl rfl rfl dX5_rebuild_116 ?_
        refine V_getR (g := (r + 2)) (k := 1) (g' := (r + 2)) (k' := 13) hC 3 5 fl_X5_77 (okR hr_r rfl) rfl rfl rfl dX5_rebuild_119 ?_
        refine V_iload hC 0 dX5_rebuild_122 rfl ?_
        obtain ⟨hi, h⟩ := gd_some h
        refine V_iald (g := (r + 2)) (k := 13) hC (okR hr_r rfl) rfl hi dX5_rebuild_124 ?_
        refine V_iload hC 1 dX5_rebuild_125 rfl ?_
        refine V_icmp_ne (tgt := 140) hC dX5_rebuild_127 (by decide) (fun c19 => ?_) (fun c19 => ?_)
        · have h := it_neg c19 h
          refine V_aload_n hC 2 dX5_rebuild_140 rfl ?_
          refine V_getR (g := (r + 2)) (k := 3) (g' := (r + 2)) (k' := 32) hC 5 7 fl_X5_31 (okR hr_r rfl) rfl rfl rfl dX5_rebuild_141 ?_
          refine V_iload hC 1 dX5_rebuild_144 rfl ?_
          obtain ⟨hi, h⟩ := gd_some h
          refine V_lald (g := (r + 2)) (k := 32) hC (okR hr_r rfl) rfl hi dX5_rebuild_146 ?_
          refine V_lneg hC dX5_rebuild_147 ?_
          obtain ⟨w21, H20, hc, h⟩ := bnd_some h
          refine V_callu (g := (r + 2)) (k := 3) (As := [.int v16, .long (-(gJ H (r + 2) 32 (Int32.toNatClampNeg v15)))]) (st := []) hC (c_X5_carry l (hr_r := hr_r) hc) rfl ml_X5_98 ⟨Nat.le_of_ble_eq_true rfl, Nat.le_of_ble_eq_true rfl⟩ (okR hr_r rfl) rfl rfl (Nat.le_of_ble_eq_true rfl) dX5_rebuild_148 ?_
          refine V_vi h (fun v22 hvv22 h => ?_)
          refine V_iinc (v := v22) (lv' := [(3, .int v22), (5, .int v16), (4, .int v15), (0, .ref (ad (r + 2) 3))]) hC 3 dX5_rebuild_151 rfl hvv22.symm (Nat.le_of_ble_eq_true rfl) rfl ?_
          refine V_goto (tgt := 85) hC dX5_rebuild_154 (by decide) ?_
          refine V_lv (lv' := [(0, .ref (ad (r + 2) 3)), (3, .int v22)]) [3, 0] rfl ?_
          exact ih v22 H20 h
        · have h := it_pos c19 h
          refine V_aload_n hC 2 dX5_rebuild_130 rfl ?_
          refine V_getR (g := (r + 2)) (k := 3) (g' := (r + 2)) (k' := 32) hC 5 7 fl_X5_31 (okR hr_r rfl) rfl rfl rfl dX5_rebuild_131 ?_
          refine V_iload hC 1 dX5_rebuild_134 rfl ?_
          obtain ⟨hi, h⟩ := gd_some h
          refine V_lald (g := (r + 2)) (k := 32) hC (okR hr_r rfl) rfl hi dX5_rebuild_136 ?_
          refine V_goto (tgt := 148) hC dX5_rebuild_137 (by decide) ?_
          obtain ⟨w24, H23, hc, h⟩ := bnd_some h
          refine V_callu (g := (r + 2)) (k := 3) (As := [.int v16, .long (gJ H (r + 2) 32 (Int32.toNatClampNeg v15))]) (st := []) hC (c_X5_carry l (hr_r := hr_r) hc) rfl ml_X5_98 ⟨Nat.le_of_ble_eq_true rfl, Nat.le_of_ble_eq_true rfl⟩ (okR hr_r rfl) rfl rfl (Nat.le_of_ble_eq_true rfl) dX5_rebuild_148 ?_
          refine V_vi h (fun v25 hvv25 h => ?_)
          refine V_iinc (v := v25) (lv' := [(3, .int v25), (5, .int v16), (4, .int v15), (0, .ref (ad (r + 2) 3))]) hC 3 dX5_rebuild_151 rfl hvv25.symm (Nat.le_of_ble_eq_true rfl) rfl ?_
          refine V_goto (tgt := 85) hC dX5_rebuild_154 (by decide) ?_
          refine V_lv (lv' := [(0, .ref (ad (r + 2) 3)), (3, .int v25)]) [3, 0] rfl ?_
          exact ih v25 H23 h
def f_X5_rebuild (r : Nat) (H : Hp) : Option (Unit × Hp) := L_X5_rebuild_2 r (fun (H4 : Hp) => gd (gI H4 (r + 2) 1 10) 21 (hl (sJ H4 (r + 2) 32 (Int32.toNatClampNeg (gI H4 (r + 2) 1 10)) 0) (fun (H5 : Hp) => L_X5_rebuild_44 r (fun (H12 : Hp) => vl (((gI H12 (r + 2) 3 9) - 1)) (fun (v13 : Int32) => L_X5_rebuild_85 r (fun (H26 : Hp) => some ((), H26)) FU v13 H12)) FU 0 H5))) FU 0 H
set_option maxRecDepth 100000 in
set_option maxHeartbeats 4000000 in
theorem s_X5_rebuild {p : Program} {l : Launch} {e : Env} {s : State} {m : MethodId} {args : Array Value} {below : List Frame} {meth : Method} {c : Code} {A : Nat → Prop} {D : va_G} {K4 : kQ} {ad : Nat → Nat → Nat} {nr : Nat} {r : Nat} {H : Hp} {res : Unit × Hp} (hC : Cx p s m args c A s.heap D K4 6 RX5 cX5_rebuild) (hret : meth.sig.returnType = none ∧ meth.locks = false) (hr_r : r < nr) (h : f_X5_rebuild r H = some res) : V p l e ({ frames := 1, cells := 0, slots := 0, locals := 23 }) s m args below meth c A s.heap (QU below args s A D K4 ad nr res) D K4 ad nr 6 0 [(0, .ref (ad (r + 2) 3)), (1, .ref (ad (r + 2) 35)), (2, .ref (ad (r + 2) 7))] [] H := by
  unfold f_X5_rebuild at h
  refine V_iconst (v := 0) hC dX5_rebuild_0 (by decide) ?_
  refine V_istore_n (lv' := [(3, .int 0), (0, .ref (ad (r + 2) 3)), (1, .ref (ad (r + 2) 35)), (2, .ref (ad (r + 2) 7))]) hC dX5_rebuild_1 (Nat.le_of_ble_eq_true rfl) rfl ?_
  refine V_lv (lv' := [(0, .ref (ad (r + 2) 3)), (1, .ref (ad (r + 2) 35)), (2, .ref (ad (r + 2) 7)), (3, .int 0)]) [1, 2, 3, 0] rfl ?_
  refine sL_X5_rebuild_2 hC hret hr_r (fun H4 h => ?_) _ 0 H h
  refine V_aload_n hC 0 dX5_rebuild_29 rfl ?_
  refine V_getR (g := (r + 2)) (k := 3) (g' := (r + 2)) (k' := 32) hC 5 7 fl_X5_31 (okR hr_r rfl) rfl rfl rfl dX5_rebuild_30 ?_
  refine V_aload_n hC 0 dX5_rebuild_33 rfl ?_
  refine V_getR (g := (r + 2)) (k := 3) (g' := (r + 2)) (k' := 1) hC 5 0 fl_X5_38 (okR hr_r rfl) rfl rfl rfl dX5_rebuild_34 ?_
  refine V_getI (g := (r + 2)) (k := 1) hC 3 10 fl_X5_60 (okR hr_r rfl) rfl rfl dX5_rebuild_37 ?_
  refine V_lconst (v := 0) hC dX5_rebuild_40 (by decide) ?_
  obtain ⟨hi, h⟩ := gd_some h
  refine V_last (g := (r + 2)) (k := 32) hC (okR hr_r rfl) rfl hi dX5_rebuild_41 ?_
  refine V_hl h (fun H5 h => ?_)
  refine V_iconst (v := 0) hC dX5_rebuild_42 (by decide) ?_
  refine V_istore_n (lv' := [(3, .int 0), (0, .ref (ad (r + 2) 3)), (1, .ref (ad (r + 2) 35))]) hC dX5_rebuild_43 (Nat.le_of_ble_eq_true rfl) rfl ?_
  refine V_lv (lv' := [(0, .ref (ad (r + 2) 3)), (1, .ref (ad (r + 2) 35)), (3, .int 0)]) [1, 2, 0] rfl ?_
  refine sL_X5_rebuild_44 hC hret hr_r (fun H12 h => ?_) _ 0 H5 h
  refine V_aload_n hC 0 dX5_rebuild_78 rfl ?_
  refine V_getI (g := (r + 2)) (k := 3) hC 5 9 fl_X5_83 (okR hr_r rfl) rfl rfl dX5_rebuild_79 ?_
  refine V_iconst (v := 1) hC dX5_rebuild_82 (by decide) ?_
  refine V_isub hC dX5_rebuild_83 ?_
  refine V_vlI h (fun v13 h => ?_)
  refine V_istore_n (lv' := [(3, .int v13), (0, .ref (ad (r + 2) 3))]) hC dX5_rebuild_84 (Nat.le_of_ble_eq_true rfl) rfl ?_
  refine V_lv (lv' := [(0, .ref (ad (r + 2) 3)), (3, .int v13)]) [1, 0] rfl ?_
  refine sL_X5_rebuild_85 hC hret hr_r (fun H26 h => ?_) _ v13 H12 h
  exact V_vret hC hret dX5_rebuild_157 h
theorem c_X5_rebuild (l : Launch) {nr : Nat} {r : Nat} (hr_r : r < nr) {H : Hp} {x : Unit} {H' : Hp} (h : f_X5_rebuild r H = some (x, H')) : CU l nr yX5_rebuild cX5_rebuild 6 none 1 23 (fun ad => [.ref (ad (r + 2) 3), .ref (ad (r + 2) 35), .ref (ad (r + 2) 7)]) H x H' := by
  intro D K4 ad sz
  refine Met.ofV (by decide) (Nat.le_of_ble_eq_true rfl) ?_
  intro p e s m args below meth c hC hret hsz
  subst hsz
  exact s_X5_rebuild hC hret hr_r h
