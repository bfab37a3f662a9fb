theorem dX1_takeCounts_0 : decode cX1_takeCounts 0 = .ok (.iconst 0, 1) := by decide +kernel
theorem dX1_takeCounts_1 : decode cX1_takeCounts 1 = .ok (.istore_n 3, 1) := by decide +kernel
theorem dX1_takeCounts_2 : decode cX1_takeCounts 2 = .ok (.iload_n 3, 1) := by decide +kernel
theorem dX1_takeCounts_3 : decode cX1_takeCounts 3 = .ok (.aload_n 1, 1) := by decide +kernel
theorem dX1_takeCounts_4 : decode cX1_takeCounts 4 = .ok (.getfield 52, 3) := by decide +kernel
theorem dX1_takeCounts_7 : decode cX1_takeCounts 7 = .ok (.if_icmp .gt 16, 3) := by decide +kernel
theorem dX1_takeCounts_10 : decode cX1_takeCounts 10 = .ok (.aload_n 0, 1) := by decide +kernel
theorem dX1_takeCounts_11 : decode cX1_takeCounts 11 = .ok (.getfield 15, 3) := by decide +kernel
theorem dX1_takeCounts_14 : decode cX1_takeCounts 14 = .ok (.iload_n 3, 1) := by decide +kernel
theorem dX1_takeCounts_15 : decode cX1_takeCounts 15 = .ok (.iconst 0, 1) := by decide +kernel
theorem dX1_takeCounts_16 : decode cX1_takeCounts 16 = .ok (.iastore, 1) := by decide +kernel
theorem dX1_takeCounts_17 : decode cX1_takeCounts 17 = .ok (.iinc 3 1, 3) := by decide +kernel
theorem dX1_takeCounts_20 : decode cX1_takeCounts 20 = .ok (.goto (-18), 3) := by decide +kernel
theorem dX1_takeCounts_23 : decode cX1_takeCounts 23 = .ok (.iconst 0, 1) := by decide +kernel
theorem dX1_takeCounts_24 : decode cX1_takeCounts 24 = .ok (.istore_n 3, 1) := by decide +kernel
theorem dX1_takeCounts_25 : decode cX1_takeCounts 25 = .ok (.iload_n 3, 1) := by decide +kernel
theorem dX1_takeCounts_26 : decode cX1_takeCounts 26 = .ok (.aload_n 1, 1) := by decide +kernel
theorem dX1_takeCounts_27 : decode cX1_takeCounts 27 = .ok (.getfield 55, 3) := by decide +kernel
theorem dX1_takeCounts_30 : decode cX1_takeCounts 30 = .ok (.if_icmp .ge 70, 3) := by decide +kernel
theorem dX1_takeCounts_33 : decode cX1_takeCounts 33 = .ok (.aload_n 0, 1) := by decide +kernel
theorem dX1_takeCounts_34 : decode cX1_takeCounts 34 = .ok (.getfield 9, 3) := by decide +kernel
theorem dX1_takeCounts_37 : decode cX1_takeCounts 37 = .ok (.iload_n 3, 1) := by decide +kernel
theorem dX1_takeCounts_38 : decode cX1_takeCounts 38 = .ok (.iload_n 3, 1) := by decide +kernel
theorem dX1_takeCounts_39 : decode cX1_takeCounts 39 = .ok (.aload_n 1, 1) := by decide +kernel
theorem dX1_takeCounts_40 : decode cX1_takeCounts 40 = .ok (.getfield 40, 3) := by decide +kernel
theorem dX1_takeCounts_43 : decode cX1_takeCounts 43 = .ok (.if_icmp .ge 9, 3) := by decide +kernel
theorem dX1_takeCounts_46 : decode cX1_takeCounts 46 = .ok (.aload_n 2, 1) := by decide +kernel
theorem dX1_takeCounts_47 : decode cX1_takeCounts 47 = .ok (.iload_n 3, 1) := by decide +kernel
theorem dX1_takeCounts_48 : decode cX1_takeCounts 48 = .ok (.iaload, 1) := by decide +kernel
theorem dX1_takeCounts_49 : decode cX1_takeCounts 49 = .ok (.goto 4, 3) := by decide +kernel
theorem dX1_takeCounts_52 : decode cX1_takeCounts 52 = .ok (.iconst 0, 1) := by decide +kernel
theorem dX1_takeCounts_53 : decode cX1_takeCounts 53 = .ok (.iastore, 1) := by decide +kernel
theorem dX1_takeCounts_54 : decode cX1_takeCounts 54 = .ok (.aload_n 0, 1) := by decide +kernel
theorem dX1_takeCounts_55 : decode cX1_takeCounts 55 = .ok (.getfield 15, 3) := by decide +kernel
theorem dX1_takeCounts_58 : decode cX1_takeCounts 58 = .ok (.aload_n 1, 1) := by decide +kernel
theorem dX1_takeCounts_59 : decode cX1_takeCounts 59 = .ok (.getfield 58, 3) := by decide +kernel
theorem dX1_takeCounts_62 : decode cX1_takeCounts 62 = .ok (.iload_n 3, 1) := by decide +kernel
theorem dX1_takeCounts_63 : decode cX1_takeCounts 63 = .ok (.iaload, 1) := by decide +kernel
theorem dX1_takeCounts_64 : decode cX1_takeCounts 64 = .ok (.dup2, 1) := by decide +kernel
theorem dX1_takeCounts_65 : decode cX1_takeCounts 65 = .ok (.iaload, 1) := by decide +kernel
theorem dX1_takeCounts_66 : decode cX1_takeCounts 66 = .ok (.aload_n 0, 1) := by decide +kernel
theorem dX1_takeCounts_67 : decode cX1_takeCounts 67 = .ok (.getfield 9, 3) := by decide +kernel
theorem dX1_takeCounts_70 : decode cX1_takeCounts 70 = .ok (.iload_n 3, 1) := by decide +kernel
theorem dX1_takeCounts_71 : decode cX1_takeCounts 71 = .ok (.iaload, 1) := by decide +kernel
theorem dX1_takeCounts_72 : decode cX1_takeCounts 72 = .ok (.isub, 1) := by decide +kernel
theorem dX1_takeCounts_73 : decode cX1_takeCounts 73 = .ok (.iastore, 1) := by decide +kernel
theorem dX1_takeCounts_74 : decode cX1_takeCounts 74 = .ok (.aload_n 0, 1) := by decide +kernel
theorem dX1_takeCounts_75 : decode cX1_takeCounts 75 = .ok (.getfield 15, 3) := by decide +kernel
theorem dX1_takeCounts_78 : decode cX1_takeCounts 78 = .ok (.aload_n 1, 1) := by decide +kernel
theorem dX1_takeCounts_79 : decode cX1_takeCounts 79 = .ok (.getfield 61, 3) := by decide +kernel
theorem dX1_takeCounts_82 : decode cX1_takeCounts 82 = .ok (.iload_n 3, 1) := by decide +kernel
theorem dX1_takeCounts_83 : decode cX1_takeCounts 83 = .ok (.iaload, 1) := by decide +kernel
theorem dX1_takeCounts_84 : decode cX1_takeCounts 84 = .ok (.dup2, 1) := by decide +kernel
theorem dX1_takeCounts_85 : decode cX1_takeCounts 85 = .ok (.iaload, 1) := by decide +kernel
theorem dX1_takeCounts_86 : decode cX1_takeCounts 86 = .ok (.aload_n 0, 1) := by decide +kernel
theorem dX1_takeCounts_87 : decode cX1_takeCounts 87 = .ok (.getfield 9, 3) := by decide +kernel
theorem dX1_takeCounts_90 : decode cX1_takeCounts 90 = .ok (.iload_n 3, 1) := by decide +kernel
theorem dX1_takeCounts_91 : decode cX1_takeCounts 91 = .ok (.iaload, 1) := by decide +kernel
theorem dX1_takeCounts_92 : decode cX1_takeCounts 92 = .ok (.iadd, 1) := by decide +kernel
theorem dX1_takeCounts_93 : decode cX1_takeCounts 93 = .ok (.iastore, 1) := by decide +kernel
theorem dX1_takeCounts_94 : decode cX1_takeCounts 94 = .ok (.iinc 3 1, 3) := by decide +kernel
theorem dX1_takeCounts_97 : decode cX1_takeCounts 97 = .ok (.goto (-72), 3) := by decide +kernel
theorem dX1_takeCounts_100 : decode cX1_takeCounts 100 = .ok (.return_, 1) := by decide +kernel
def L_X1_takeCounts_2 (r : Nat) (k : Hp → Option (Unit × Hp)) : Nat → Int32 → Hp → Option (Unit × Hp)
  | 0, _, _ => none
  | n + 1, x3, H => if (gI H (r + 2) 1 10) < x3 then k H else gd x3 21 (hl (sI H 1 8 (Int32.toNatClampNeg x3) 0) (fun (H2 : Hp) => vl (x3 + (1 : Int32)) (fun (v3 : Int32) => L_X1_takeCounts_2 r k n v3 H2)))
set_option maxRecDepth 100000 in
set_option maxHeartbeats 4000000 in
theorem sL_X1_takeCounts_2 {p : Program} {l : Launch} {e : Env} {s : State} {m : MethodId} {args : Array Value} {below : List Frame} {meth : Method} {c : Code} {A : Nat → Prop} {D : va_G} {K4 : kQ} {ad : Nat → Nat → Nat} {nr : Nat} {r : Nat} {k : Hp → Option (Unit × Hp)} {res : Unit × Hp} (hC : Cx p s m args c A s.heap D K4 4 RX1 cX1_takeCounts) (hret : meth.sig.returnType = none ∧ meth.locks = false) (hr_r : r < nr) (hk : ∀ (H : Hp), k H = some res → V p l e ({ frames := 0, cells := 0, slots := 0, locals := 0 }) s m args below meth c A s.heap (QU below args s A D K4 ad nr res) D K4 ad nr 4 23 [(0, .ref (ad 1 3)), (1, .ref (ad (r + 2) 1)), (2, .ref (ad (r + 2) 6))] [] H) : ∀ (n : Nat) (x3 : Int32) (H : Hp), L_X1_takeCounts_2 r k n x3 H = some res → V p l e ({ frames := 0, cells := 0, slots := 0, locals := 0 }) s m args below meth c A s.heap (QU below args s A D K4 ad nr res) D K4 ad nr 4 2 [(0, .ref (ad 1 3)), (1, .ref (ad (r + 2) 1)), (2, .ref (ad (r + 2) 6)), (3, .int x3)] [] H := by
  intro n
  induction n with
  | zero => intro x3 H h; exact nomatch (show (none : Option (Unit × Hp)) = some res from h)
  | succ n ih =>
    intro x3 H h
    rw [L_X1_takeCounts_2] at h
    refine V_iload_n hC 3 dX1_takeCounts_2 rfl ?_
    refine V_aload_n hC 1 dX1_takeCounts_3 rfl ?_
    refine V_getI (g := (r + 2)) (k := 1) hC 3 10 fl_X1_52 (okR hr_r rfl) rfl rfl dX1_takeCounts_4 ?_
    refine V_icmp_gt (tgt := 23) hC dX1_takeCounts_7 (by decide) (fun c1 => ?_) (fun c1 => ?_)
    · have h := it_pos c1 h
      refine V_lv (lv' := [(0, .ref (ad 1 3)), (1, .ref (ad (r + 2) 1)), (2, .ref (ad (r + 2) 6))]) [0, 1, 2] rfl ?_
      exact hk H h
    · have h := it_neg c1 h
      refine V_aload_n hC 0 dX1_takeCounts_10 rfl ?_
      refine V_getR (g := 1) (k := 3) (g' := 1) (k' := 8) hC 1 1 fl_X1_15 rfl rfl rfl rfl dX1_takeCounts_11 ?_
      refine V_iload_n hC 3 dX1_takeCounts_14 rfl ?_
      refine V_iconst (v := 0) hC dX1_takeCounts_15 (by decide) ?_
      obtain ⟨hi, h⟩ := gd_some h
      refine V_iast (g := 1) (k := 8) hC rfl rfl hi dX1_takeCounts_16 ?_
      refine V_hl h (fun H2 h => ?_)
      refine V_vi h (fun v3 hvv3 h => ?_)
      refine V_iinc (v := v3) (lv' := [(3, .int v3), (0, .ref (ad 1 3)), (1, .ref (ad (r + 2) 1)), (2, .ref (ad (r + 2) 6))]) hC 3 dX1_takeCounts_17 rfl hvv3.symm (Nat.le_of_ble_eq_true rfl) rfl ?_
      refine V_goto (tgt := 2) hC dX1_takeCounts_20 (by decide) ?_
      refine V_lv (lv' := [(0, .ref (ad 1 3)), (1, .ref (ad (r + 2) 1)), (2, .ref (ad (r + 2) 6)), (3, .int v3)]) [1, 2, 3, 0] rfl ?_
      exact ih v3 H2 h
def L_X1_takeCounts_25 (r : Nat) (k : Hp → Option (Unit × Hp)) : Nat → Int32 → Hp → Option (Unit × Hp)
  | 0, _, _ => none
  | n + 1, x3, H => if (gI H (r + 2) 1 12) ≤ x3 then k H else jn (fun (y7 : Int32) (H8 : Hp) => gd x3 61 (hl (sI H8 1 7 (Int32.toNatClampNeg x3) y7) (fun (H9 : Hp) => gd x3 61 (gd (gI H9 (r + 2) 13 (Int32.toNatClampNeg x3)) 21 (gd x3 61 (gd (gI H9 (r + 2) 13 (Int32.toNatClampNeg x3)) 21 (hl (sI H9 1 8 (Int32.toNatClampNeg (gI H9 (r + 2) 13 (Int32.toNatClampNeg x3))) ((gI H9 1 8 (Int32.toNatClampNeg (gI H9 (r + 2) 13 (Int32.toNatClampNeg x3)))) - (gI H9 1 7 (Int32.toNatClampNeg x3)))) (fun (H10 : Hp) => gd x3 61 (gd (gI H10 (r + 2) 14 (Int32.toNatClampNeg x3)) 21 (gd x3 61 (gd (gI H10 (r + 2) 14 (Int32.toNatClampNeg x3)) 21 (hl (sI H10 1 8 (Int32.toNatClampNeg (gI H10 (r + 2) 14 (Int32.toNatClampNeg x3))) ((gI H10 1 8 (Int32.toNatClampNeg (gI H10 (r + 2) 14 (Int32.toNatClampNeg x3)))) + (gI H10 1 7 (Int32.toNatClampNeg x3)))) (fun (H11 : Hp) => vl (x3 + (1 : Int32)) (fun (v12 : Int32) => L_X1_takeCounts_25 r k n v12 H11)))))))))))))) (fun j6 => if (gI H (r + 2) 1 11) ≤ x3 then j6 0 H else gd x3 40 (j6 ((gI H (r + 2) 6 (Int32.toNatClampNeg x3))) H))
set_option maxRecDepth 100000 in
set_option maxHeartbeats 4000000 in
theorem sL_X1_takeCounts_25 {p : Program} {l : Launch} {e : Env} {s : State} {m : MethodId} {args : Array Value} {below : List Frame} {meth : Method} {c : Code} {A : Nat → Prop} {D : va_G} {K4 : kQ} {ad : Nat → Nat → Nat} {nr : Nat} {r : Nat} {k : Hp → Option (Unit × Hp)} {res : Unit × Hp} (hC : Cx p s m args c A s.heap D K4 4 RX1 cX1_takeCounts) (hret : meth.sig.returnType = none ∧ meth.locks = false) (hr_r : r < nr) (hk : ∀ (H : Hp), k H = some res → V p l e ({ frames := 0, cells := 0, slots := 0, locals := 0 }) s m args below meth c A s.heap (QU below args s A D K4 ad nr res) D K4 ad nr 4 100 [] [] H) : ∀ (n : Nat) (x3 : Int32) (H : Hp), L_X1_takeCounts_25 r k n x3 H = some res → V p l e ({ frames := 0, cells := 0, slots := 0, locals := 0 }) s m args below meth c A s.heap (QU below args s A D K4 ad nr res) D K4 ad nr 4 25 [(0, .ref (ad 1 3)), (1, .ref (ad (r + 2) 1)), (2, .ref (ad (r + 2) 6)), (3, .int x3)] [] H := by
  intro n
  induction n with
  | zero => intro x3 H h; exact nomatch (show (none : Option (Unit × Hp)) = some res from h)
  | succ n ih =>
    intro x3 H h
    rw [L_X1_takeCounts_25] at h
    refine V_iload_n hC 3 dX1_takeCounts_25 rfl ?_
    refine V_aload_n hC 1 dX1_takeCounts_26 rfl ?_
    refine V_getI (g := (r + 2)) (k := 1) hC 3 12 fl_X1_55 (okR hr_r rfl) rfl rfl dX1_takeCounts_27 ?_
    refine V_icmp_ge (tgt := 100) hC dX1_takeCounts_30 (by decide) (fun c5 => ?_) (fun c5 => ?_)
    · have h := it_pos c5 h
      refine V_lv (lv' := []) [] rfl ?_
      exact hk H h
    · have h := it_neg c5 h
      refine V_aload_n hC 0 dX1_takeCounts_33 rfl ?_
      refine V_getR (g := 1) (k := 3) (g' := 1) (k' := 7) hC 1 0 fl_X1_9 rfl rfl rfl rfl dX1_takeCounts_34 ?_
      refine V_iload_n hC 3 dX1_takeCounts_37 rfl ?_
      refine V_iload_n hC 3 dX1_takeCounts_38 rfl ?_
      refine V_aload_n hC 1 dX1_takeCounts_39 rfl ?_
      refine V_getI (g := (r + 2)) (k := 1) hC 3 11 fl_X1_40 (okR hr_r rfl) rfl rfl dX1_takeCounts_40 ?_
      refine V_jn1 (pj := 53) (lj := fun y7 => [(0, .ref (ad 1 3)), (1, .ref (ad (r + 2) 1)), (2, .ref (ad (r + 2) 6)), (3, .int x3)]) (sj := fun y7 => [.int y7, .int x3, .ref (ad 1 7)]) h (fun y7 H8 h => ?_) (fun hj6 h => ?_)
      · obtain ⟨hi, h⟩ := gd_some h
        refine V_iast (g := 1) (k := 7) hC rfl rfl hi dX1_takeCounts_53 ?_
        refine V_hl h (fun H9 h => ?_)
        refine V_aload_n hC 0 dX1_takeCounts_54 rfl ?_
        refine V_getR (g := 1) (k := 3) (g' := 1) (k' := 8) hC 1 1 fl_X1_15 rfl rfl rfl rfl dX1_takeCounts_55 ?_
        refine V_aload_n hC 1 dX1_takeCounts_58 rfl ?_
        refine V_getR (g := (r + 2)) (k := 1) (g' := (r + 2)) (k' := 13) hC 3 5 fl_X1_58 (okR hr_r rfl) rfl rfl rfl dX1_takeCounts_59 ?_
        refine V_iload_n hC 3 dX1_takeCounts_62 rfl ?_
        obtain ⟨hi, h⟩ := gd_some h
        refine V_iald (g := (r + 2)) (k := 13) hC (okR hr_r rfl) rfl hi dX1_takeCounts_63 ?_
        refine V_dup2 hC dX1_takeCounts_64 rfl rfl ?_
        obtain ⟨hi, h⟩ := gd_some h
        refine V_iald (g := 1) (k := 8) hC rfl rfl hi dX1_takeCounts_65 ?_
        refine V_aload_n hC 0 dX1_takeCounts_66 rfl ?_
        refine V_getR (g := 1) (k := 3) (g' := 1) (k' := 7) hC 1 0 fl_X1_9 rfl rfl rfl rfl dX1_takeCounts_67 ?_
        refine V_iload_n hC 3 dX1_takeCounts_70 rfl ?_
        obtain ⟨hi, h⟩ := gd_some h
        refine V_iald (g := 1) (k := 7) hC rfl rfl hi dX1_takeCounts_71 ?_
        refine V_isub hC dX1_takeCounts_72 ?_
        obtain ⟨hi, h⟩ := gd_some h
        refine V_iast (g := 1) (k := 8) hC rfl rfl hi dX1_takeCounts_73 ?_
        refine V_hl h (fun H10 h => ?_)
        refine V_aload_n hC 0 dX1_takeCounts_74 rfl ?_
        refine V_getR (g := 1) (k := 3) (g' := 1) (k' := 8) hC 1 1 fl_X1_15 rfl rfl rfl rfl dX1_takeCounts_75 ?_
        refine V_aload_n hC 1 dX1_takeCounts_78 rfl ?_
        refine V_getR (g := (r + 2)) (k := 1) (g' := (r + 2)) (k' := 14) hC 3 6 fl_X1_61 (okR hr_r rfl) rfl rfl rfl dX1_takeCounts_79 ?_
        refine V_iload_n hC 3 dX1_takeCounts_82 rfl ?_
        obtain ⟨hi, h⟩ := gd_some h
        refine V_iald (g := (r + 2)) (k := 14) hC (okR hr_r rfl) rfl hi dX1_takeCounts_83 ?_
        refine V_dup2 hC dX1_takeCounts_84 rfl rfl ?_
        obtain ⟨hi, h⟩ := gd_some h
        refine V_iald (g := 1) (k := 8) hC rfl rfl hi dX1_takeCounts_85 ?_
        refine V_aload_n hC 0 dX1_takeCounts_86 rfl ?_
        refine V_getR (g := 1) (k := 3) (g' := 1) (k' := 7) hC 1 0 fl_X1_9 rfl rfl rfl rfl dX1_takeCounts_87 ?_
        refine V_iload_n hC 3 dX1_takeCounts_90 rfl ?_
        obtain ⟨hi, h⟩ := gd_some h
        refine V_iald (g := 1) (k := 7) hC rfl rfl hi dX1_takeCounts_91 ?_
        refine V_iadd hC dX1_takeCounts_92 ?_
        obtain ⟨hi, h⟩ := gd_some h
        refine V_iast (g := 1) (k := 8) hC rfl rfl hi dX1_takeCounts_93 ?_
        refine V_hl h (fun H11 h => ?_)
        refine V_vi h (fun v12 hvv12 h => ?_)
        refine V_iinc (v := v12) (lv' := [(3, .int v12), (0, .ref (ad 1 3)), (1, .ref (ad (r + 2) 1)), (2, .ref (ad (r + 2) 6))]) hC 3 dX1_takeCounts_94 rfl hvv12.symm (Nat.le_of_ble_eq_true rfl) rfl ?_
        refine V_goto (tgt := 25) hC dX1_takeCounts_97 (by decide) ?_
        refine V_lv (lv' := [(0, .ref (ad 1 3)), (1, .ref (ad (r + 2) 1)), (2, .ref (ad (r + 2) 6)), (3, .int v12)]) [1, 2, 3, 0] rfl ?_
        exact ih v12 H11 h
      · refine V_icmp_ge (tgt := 52) hC dX1_takeCounts_43 (by decide) (fun c13 => ?_) (fun c13 => ?_)
        · have h := it_pos c13 h
          refine V_iconst (v := 0) hC dX1_takeCounts_52 (by decide) ?_
          refine V_lv (lv' := [(0, .ref (ad 1 3)), (1, .ref (ad (r + 2) 1)), (2, .ref (ad (r + 2) 6)), (3, .int x3)]) [0, 1, 2, 3] rfl ?_
          exact hj6 0 H h
        · have h := it_neg c13 h
          refine V_aload_n hC 2 dX1_takeCounts_46 rfl ?_
          refine V_iload_n hC 3 dX1_takeCounts_47 rfl ?_
          obtain ⟨hi, h⟩ := gd_some h
          refine V_iald (g := (r + 2)) (k := 6) hC (okR hr_r rfl) rfl hi dX1_takeCounts_48 ?_
          refine V_goto (tgt := 53) hC dX1_takeCounts_49 (by decide) ?_
          refine V_lv (lv' := [(0, .ref (ad 1 3)), (1, .ref (ad (r + 2) 1)), (2, .ref (ad (r + 2) 6)), (3, .int x3)]) [0, 1, 2, 3] rfl ?_
          exact hj6 ((gI H (r + 2) 6 (Int32.toNatClampNeg x3))) H h
def f_X1_takeCounts (r : Nat) (H : Hp) : Option (Unit × Hp) := L_X1_takeCounts_2 r (fun (H4 : Hp) => L_X1_takeCounts_25 r (fun (H14 : Hp) => some ((), H14)) FU 0 H4) FU 0 H
set_option maxRecDepth 100000 in
set_option maxHeartbeats 4000000 in
theorem s_X1_takeCounts {p : Program} {l : Launch} {e : Env} {s : State} {m : MethodId} {args : Array Value} {below : List Frame} {meth : Method} {c : Code} {A : Nat → Prop} {D : va_G} {K4 : kQ} {ad : Nat → Nat → Nat} {nr : Nat} {r : Nat} {H : Hp} {res : Unit × Hp} (hC : Cx p s m args c A s.heap D K4 4 RX1 cX1_takeCounts) (hret : meth.sig.returnType = none ∧ meth.locks = false) (hr_r : r < nr) (h : f_X1_takeCounts r H = some res) : V p l e ({ frames := 0, cells := 0, slots := 0, locals := 0 }) s m args below meth c A s.heap (QU below args s A D K4 ad nr res) D K4 ad nr 4 0 [(0, .ref (ad 1 3)), (1, .ref (ad (r + 2) 1)), (2, .ref (ad (r + 2) 6))] [] H := by
  unfold f_X1_takeCounts at h
  refine V_iconst (v := 0) hC dX1_takeCounts_0 (by decide) ?_
  refine V_istore_n (lv' := [(3, .int 0), (0, .ref (ad 1 3)), (1, .ref (ad (r + 2) 1)), (2, .ref (ad (r + 2) 6))]) hC dX1_takeCounts_1 (Nat.le_of_ble_eq_true rfl) rfl ?_
  refine V_lv (lv' := [(0, .ref (ad 1 3)), (1, .ref (ad (r + 2) 1)), (2, .ref (ad (r + 2) 6)), (3, .int 0)]) [1, 2, 3, 0] rfl ?_
  refine sL_X1_takeCounts_2 hC hret hr_r (fun H4 h => ?_) _ 0 H h
  refine V_iconst (v := 0) hC dX1_takeCounts_23 (by decide) ?_
  refine V_istore_n (lv' := [(3, .int 0), (0, .ref (ad 1 3)), (1, .ref (ad (r + 2) 1)), (2, .ref (ad (r + 2) 6))]) hC dX1_takeCounts_24 (Nat.le_of_ble_eq_true rfl) rfl ?_
  refine V_lv (lv' := [(0, .ref (ad 1 3)), (1, .ref (ad (r + 2) 1)), (2, .ref (ad (r + 2) 6)), (3, .int 0)]) [1, 2, 3, 0] rfl ?_
  refine sL_X1_takeCounts_25 hC hret hr_r (fun H14 h => ?_) _ 0 H4 h
  exact V_vret hC hret dX1_takeCounts_100 h
theorem c_X1_takeCounts (l : Launch) {nr : Nat} {r : Nat} (hr_r : r < nr) {H : Hp} {x : Unit} {H' : Hp} (h : f_X1_takeCounts r H = some (x, H')) : CU l nr yX1_takeCounts cX1_takeCounts 4 none 0 0 (fun ad => [.ref (ad 1 3), .ref (ad (r + 2) 1), .ref (ad (r + 2) 6)]) H x H' := by
  intro D K4 ad sz
  refine Met.ofV (by decide) (Nat.le_of_ble_eq_true rfl) ?_
  intro p e s m args below meth c hC hret hsz
  subst hsz
  exact s_X1_takeCounts hC hret hr_r h
theorem dX1_comeNearer_0 : decode cX1_comeNearer 0 = .ok (.aload_n 0, 1) := by decide +kernel
theorem dX1_comeNearer_1 : decode cX1_comeNearer 1 = .ok (.getfield 18, 3) := by decide +kernel
theorem dX1_comeNearer_4 : decode cX1_comeNearer 4 = .ok (.iload_n 1, 1) := by decide +kernel
theorem dX1_comeNearer_5 : decode cX1_comeNearer 5 = .ok (.iaload, 1) := by decide +kernel
theorem dX1_comeNearer_6 : decode cX1_comeNearer 6 = .ok (.ldc 64, 2) := by decide +kernel
theorem dX1_comeNearer_8 : decode cX1_comeNearer 8 = .ok (.if_icmp .ge 21, 3) := by decide +kernel
theorem dX1_comeNearer_11 : decode cX1_comeNearer 11 = .ok (.aload_n 0, 1) := by decide +kernel
theorem dX1_comeNearer_12 : decode cX1_comeNearer 12 = .ok (.getfield 18, 3) := by decide +kernel
theorem dX1_comeNearer_15 : decode cX1_comeNearer 15 = .ok (.iload_n 1, 1) := by decide +kernel
theorem dX1_comeNearer_16 : decode cX1_comeNearer 16 = .ok (.iaload, 1) := by decide +kernel
theorem dX1_comeNearer_17 : decode cX1_comeNearer 17 = .ok (.iload 4, 2) := by decide +kernel
theorem dX1_comeNearer_19 : decode cX1_comeNearer 19 = .ok (.iadd, 1) := by decide +kernel
theorem dX1_comeNearer_20 : decode cX1_comeNearer 20 = .ok (.aload_n 0, 1) := by decide +kernel
theorem dX1_comeNearer_21 : decode cX1_comeNearer 21 = .ok (.getfield 18, 3) := by decide +kernel
theorem dX1_comeNearer_24 : decode cX1_comeNearer 24 = .ok (.iload_n 2, 1) := by decide +kernel
theorem dX1_comeNearer_25 : decode cX1_comeNearer 25 = .ok (.iaload, 1) := by decide +kernel
theorem dX1_comeNearer_26 : decode cX1_comeNearer 26 = .ok (.if_icmp .lt 5, 3) := by decide +kernel
theorem dX1_comeNearer_29 : decode cX1_comeNearer 29 = .ok (.iconst 0, 1) := by decide +kernel
theorem dX1_comeNearer_30 : decode cX1_comeNearer 30 = .ok (.ireturn, 1) := by decide +kernel
theorem dX1_comeNearer_31 : decode cX1_comeNearer 31 = .ok (.aload_n 0, 1) := by decide +kernel
theorem dX1_comeNearer_32 : decode cX1_comeNearer 32 = .ok (.getfield 18, 3) := by decide +kernel
theorem dX1_comeNearer_35 : decode cX1_comeNearer 35 = .ok (.iload_n 2, 1) := by decide +kernel
theorem dX1_comeNearer_36 : decode cX1_comeNearer 36 = .ok (.aload_n 0, 1) := by decide +kernel
theorem dX1_comeNearer_37 : decode cX1_comeNearer 37 = .ok (.getfield 18, 3) := by decide +kernel
theorem dX1_comeNearer_40 : decode cX1_comeNearer 40 = .ok (.iload_n 1, 1) := by decide +kernel
theorem dX1_comeNearer_41 : decode cX1_comeNearer 41 = .ok (.iaload, 1) := by decide +kernel
theorem dX1_comeNearer_42 : decode cX1_comeNearer 42 = .ok (.iload 4, 2) := by decide +kernel
theorem dX1_comeNearer_44 : decode cX1_comeNearer 44 = .ok (.iadd, 1) := by decide +kernel
theorem dX1_comeNearer_45 : decode cX1_comeNearer 45 = .ok (.iastore, 1) := by decide +kernel
theorem dX1_comeNearer_46 : decode cX1_comeNearer 46 = .ok (.aload_n 0, 1) := by decide +kernel
theorem dX1_comeNearer_47 : decode cX1_comeNearer 47 = .ok (.getfield 21, 3) := by decide +kernel
theorem dX1_comeNearer_50 : decode cX1_comeNearer 50 = .ok (.iload_n 2, 1) := by decide +kernel
theorem dX1_comeNearer_51 : decode cX1_comeNearer 51 = .ok (.iload_n 3, 1) := by decide +kernel
theorem dX1_comeNearer_52 : decode cX1_comeNearer 52 = .ok (.iastore, 1) := by decide +kernel
theorem dX1_comeNearer_53 : decode cX1_comeNearer 53 = .ok (.iconst 1, 1) := by decide +kernel
theorem dX1_comeNearer_54 : decode cX1_comeNearer 54 = .ok (.ireturn, 1) := by decide +kernel
def f_X1_comeNearer (a1 : Int32) (a2 : Int32) (a3 : Int32) (a4 : Int32) (H : Hp) : Option (Int32 × Hp) := gd a1 21 (if 1000000000 ≤ (gI H 1 9 (Int32.toNatClampNeg a1)) then some (0, H) else gd a1 21 (gd a2 21 (if ((gI H 1 9 (Int32.toNatClampNeg a1)) + a4) < (gI H 1 9 (Int32.toNatClampNeg a2)) then gd a1 21 (gd a2 21 (hl (sI H 1 9 (Int32.toNatClampNeg a2) ((gI H 1 9 (Int32.toNatClampNeg a1)) + a4)) (fun (H3 : Hp) => gd a2 21 (hl (sI H3 1 10 (Int32.toNatClampNeg a2) a3) (fun (H4 : Hp) => some (1, H4)))))) else some (0, H))))
set_option maxRecDepth 100000 in
set_option maxHeartbeats 4000000 in
theorem s_X1_comeNearer {p : Program} {l : Launch} {e : Env} {s : State} {m : MethodId} {args : Array Value} {below : List Frame} {meth : Method} {c : Code} {A : Nat → Prop} {D : va_G} {K4 : kQ} {ad : Nat → Nat → Nat} {nr : Nat} {a1 : Int32} {a2 : Int32} {a3 : Int32} {a4 : Int32} {H : Hp} {res : Int32 × Hp} (hC : Cx p s m args c A s.heap D K4 5 RX1 cX1_comeNearer) (hret : meth.sig.returnType = (some .boolean) ∧ meth.locks = false) (h : f_X1_comeNearer a1 a2 a3 a4 H = some res) : V p l e ({ frames := 0, cells := 0, slots := 0, locals := 0 }) s m args below meth c A s.heap (QI below args s A D K4 ad nr res) D K4 ad nr 5 0 [(0, .ref (ad 1 3)), (1, .int a1), (2, .int a2), (3, .int a3), (4, .int a4)] [] H := by
  unfold f_X1_comeNearer at h
  refine V_aload_n hC 0 dX1_comeNearer_0 rfl ?_
  refine V_getR (g := 1) (k := 3) (g' := 1) (k' := 9) hC 1 2 fl_X1_18 rfl rfl rfl rfl dX1_comeNearer_1 ?_
  refine V_iload_n hC 1 dX1_comeNearer_4 rfl ?_
  obtain ⟨hi, h⟩ := gd_some h
  refine V_iald (g := 1) (k := 9) hC rfl rfl hi dX1_comeNearer_5 ?_
  refine V_ldc hC dX1_comeNearer_6 cl_X1_64 ?_
  refine V_icmp_ge (tgt := 29) hC dX1_comeNearer_8 (by decide) (fun c1 => ?_) (fun c1 => ?_)
  · have h := it_pos c1 h
    refine V_iconst (v := 0) hC dX1_comeNearer_29 (by decide) ?_
    exact V_zret hC hret (by decide) dX1_comeNearer_30 h
  · have h := it_neg c1 h
    refine V_aload_n hC 0 dX1_comeNearer_11 rfl ?_
    refine V_getR (g := 1) (k := 3) (g' := 1) (k' := 9) hC 1 2 fl_X1_18 rfl rfl rfl rfl dX1_comeNearer_12 ?_
    refine V_iload_n hC 1 dX1_comeNearer_15 rfl ?_
    obtain ⟨hi, h⟩ := gd_some h
    refine V_iald (g := 1) (k := 9) hC rfl rfl hi dX1_comeNearer_16 ?_
    refine V_iload hC 4 dX1_comeNearer_17 rfl ?_
    refine V_iadd hC dX1_comeNearer_19 ?_
    refine V_aload_n hC 0 dX1_comeNearer_20 rfl ?_
    refine V_getR (g := 1) (k := 3) (g' := 1) (k' := 9) hC 1 2 fl_X1_18 rfl rfl rfl rfl dX1_comeNearer_21 ?_
    refine V_iload_n hC 2 dX1_comeNearer_24 rfl ?_
    obtain ⟨hi, h⟩ := gd_some h
    refine V_iald (g := 1) (k := 9) hC rfl rfl hi dX1_comeNearer_25 ?_
    refine V_icmp_lt (tgt := 31) hC dX1_comeNearer_26 (by decide) (fun c2 => ?_) (fun c2 => ?_)
    · have h := it_pos c2 h
      refine V_aload_n hC 0 dX1_comeNearer_31 rfl ?_
      refine V_getR (g := 1) (k := 3) (g' := 1) (k' := 9) hC 1 2 fl_X1_18 rfl rfl rfl rfl dX1_comeNearer_32 ?_
      refine V_iload_n hC 2 dX1_comeNearer_35 rfl ?_
      refine V_aload_n hC 0 dX1_comeNearer_36 rfl ?_
      refine V_getR (g := 1) (k := 3) (g' := 1) (k' := 9) hC 1 2 fl_X1_18 rfl rfl rfl rfl dX1_comeNearer_37 ?_
      refine V_iload_n hC 1 dX1_comeNearer_40 rfl ?_
      obtain ⟨hi, h⟩ := gd_some h
      refine V_iald (g := 1) (k := 9) hC rfl rfl hi dX1_comeNearer_41 ?_
      refine V_iload hC 4 dX1_comeNearer_42 rfl ?_
      refine V_iadd hC dX1_comeNearer_44 ?_
      obtain ⟨hi, h⟩ := gd_some h
      refine V_iast (g := 1) (k := 9) hC rfl rfl hi dX1_comeNearer_45 ?_
      refine V_hl h (fun H3 h => ?_)
      refine V_aload_n hC 0 dX1_comeNearer_46 rfl ?_
      refine V_getR (g := 1) (k := 3) (g' := 1) (k' := 10) hC 1 3 fl_X1_21 rfl rfl rfl rfl dX1_comeNearer_47 ?_
      refine V_iload_n hC 2 dX1_comeNearer_50 rfl ?_
      refine V_iload_n hC 3 dX1_comeNearer_51 rfl ?_
      obtain ⟨hi, h⟩ := gd_some h
      refine V_iast (g := 1) (k := 10) hC rfl rfl hi dX1_comeNearer_52 ?_
      refine V_hl h (fun H4 h => ?_)
      refine V_iconst (v := 1) hC dX1_comeNearer_53 (by decide) ?_
      exact V_zret hC hret (by decide) dX1_comeNearer_54 h
    · have h := it_neg c2 h
      refine V_iconst (v := 0) hC dX1_comeNearer_29 (by decide) ?_
      exact V_zret hC hret (by decide) dX1_comeNearer_30 h
theorem c_X1_comeNearer (l : Launch) {nr : Nat} {a1 : Int32} {a2 : Int32} {a3 : Int32} {a4 : Int32} {H : Hp} {x : Int32} {H' : Hp} (h : f_X1_comeNearer a1 a2 a3 a4 H = some (x, H')) : CI l nr yX1_comeNearer cX1_comeNearer 5 (some .boolean) 0 0 (fun ad => [.ref (ad 1 3), .int a1, .int a2, .int a3, .int a4]) H x H' := by
  intro D K4 ad sz
  refine Met.ofV (by decide) (Nat.le_of_ble_eq_true rfl) ?_
  intro p e s m args below meth c hC hret hsz
  subst hsz
  exact s_X1_comeNearer hC hret h
theorem dX1_costOfMore_0 : decode cX1_costOfMore 0 = .ok (.iload_n 2, 1) := by decide +kernel
theorem dX1_costOfMore_1 : decode cX1_costOfMore 1 = .ok (.iconst (-1), 1) := by decide +kernel
theorem dX1_costOfMore_2 : decode cX1_costOfMore 2 = .ok (.if_icmp .ne 5, 3) := by decide +kernel
theorem dX1_costOfMore_5 : decode cX1_costOfMore 5 = .ok (.iconst 1, 1) := by decide +kernel
theorem dX1_costOfMore_6 : decode cX1_costOfMore 6 = .ok (.ireturn, 1) := by decide +kernel
theorem dX1_costOfMore_7 : decode cX1_costOfMore 7 = .ok (.aload_n 0, 1) := by decide +kernel
theorem dX1_costOfMore_8 : decode cX1_costOfMore 8 = .ok (.getfield 9, 3) := by decide +kernel
theorem dX1_costOfMore_11 : decode cX1_costOfMore 11 = .ok (.iload_n 1, 1) := by decide +kernel
theorem dX1_costOfMore_12 : decode cX1_costOfMore 12 = .ok (.iaload, 1) := by decide +kernel
theorem dX1_costOfMore_13 : decode cX1_costOfMore 13 = .ok (.iload_n 2, 1) := by decide +kernel
theorem dX1_costOfMore_14 : decode cX1_costOfMore 14 = .ok (.if_icmp .ge 8, 3) := by decide +kernel
theorem dX1_costOfMore_17 : decode cX1_costOfMore 17 = .ok (.bipush (-63), 2) := by decide +kernel
theorem dX1_costOfMore_19 : decode cX1_costOfMore 19 = .ok (.goto 5, 3) := by decide +kernel
theorem dX1_costOfMore_22 : decode cX1_costOfMore 22 = .ok (.bipush 65, 2) := by decide +kernel
theorem dX1_costOfMore_24 : decode cX1_costOfMore 24 = .ok (.ireturn, 1) := by decide +kernel
def f_X1_costOfMore (a1 : Int32) (a2 : Int32) (H : Hp) : Option (Int32 × Hp) := if a2 = (-1) then some (1, H) else gd a1 61 (if a2 ≤ (gI H 1 7 (Int32.toNatClampNeg a1)) then some (65, H) else some ((-63), H))
set_option maxRecDepth 100000 in
set_option maxHeartbeats 4000000 in
theorem s_X1_costOfMore {p : Program} {l : Launch} {e : Env} {s : State} {m : MethodId} {args : Array Value} {below : List Frame} {meth : Method} {c : Code} {A : Nat → Prop} {D : va_G} {K4 : kQ} {ad : Nat → Nat → Nat} {nr : Nat} {a1 : Int32} {a2 : Int32} {H : Hp} {res : Int32 × Hp} (hC : Cx p s m args c A s.heap D K4 3 RX1 cX1_costOfMore) (hret : meth.sig.returnType = (some .int) ∧ meth.locks = false) (h : f_X1_costOfMore a1 a2 H = some res) : V p l e ({ frames := 0, cells := 0, slots := 0, locals := 0 }) s m args below meth c A s.heap (QI below args s A D K4 ad nr res) D K4 ad nr 3 0 [(0, .ref (ad 1 3)), (1, .int a1), (2, .int a2)] [] H := by
  unfold f_X1_costOfMore at h
  refine V_iload_n hC 2 dX1_costOfMore_0 rfl ?_
  refine V_iconst (v := -1) hC dX1_costOfMore_1 (by decide) ?_
  refine V_icmp_ne (tgt := 7) hC dX1_costOfMore_2 (by decide) (fun c1 => ?_) (fun c1 => ?_)
  · have h := it_neg c1 h
    refine V_aload_n hC 0 dX1_costOfMore_7 rfl ?_
    refine V_getR (g := 1) (k := 3) (g' := 1) (k' := 7) hC 1 0 fl_X1_9 rfl rfl rfl rfl dX1_costOfMore_8 ?_
    refine V_iload_n hC 1 dX1_costOfMore_11 rfl ?_
    obtain ⟨hi, h⟩ := gd_some h
    refine V_iald (g := 1) (k := 7) hC rfl rfl hi dX1_costOfMore_12 ?_
    refine V_iload_n hC 2 dX1_costOfMore_13 rfl ?_
    refine V_icmp_ge (tgt := 22) hC dX1_costOfMore_14 (by decide) (fun c2 => ?_) (fun c2 => ?_)
    · have h := it_pos c2 h
      refine V_bipush (v := 65) hC dX1_costOfMore_22 (by decide) ?_
      exact V_iret hC hret dX1_costOfMore_24 h
    · have h := it_neg c2 h
      refine V_bipush (v := -63) hC dX1_costOfMore_17 (by decide) ?_
      refine V_goto (tgt := 24) hC dX1_costOfMore_19 (by decide) ?_
      exact V_iret hC hret dX1_costOfMore_24 h
  · have h := it_pos c1 h
    refine V_iconst (v := 1) hC dX1_costOfMore_5 (by decide) ?_
    exact V_iret hC hret dX1_costOfMore_6 h
theorem c_X1_costOfMore (l : Launch) {nr : Nat} {a1 : Int32} {a2 : Int32} {H : Hp} {x : Int32} {H' : Hp} (h : f_X1_costOfMore a1 a2 H = some (x, H')) : CI l nr yX1_costOfMore cX1_costOfMore 3 (some .int) 0 0 (fun ad => [.ref (ad 1 3), .int a1, .int a2]) H x H' := by
  intro D K4 ad sz
  refine Met.ofV (by decide) (Nat.le_of_ble_eq_true rfl) ?_
  intro p e s m args below meth c hC hret hsz
  subst hsz
  exact s_X1_costOfMore hC hret h
theorem dX1_costOfLess_0 : decode cX1_costOfLess 0 = .ok (.iload_n 2, 1) := by decide +kernel
theorem dX1_costOfLess_1 : decode cX1_costOfLess 1 = .ok (.iconst (-1), 1) := by decide +kernel
theorem dX1_costOfLess_2 : decode cX1_costOfLess 2 = .ok (.if_icmp .ne 5, 3) := by decide +kernel
theorem dX1_costOfLess_5 : decode cX1_costOfLess 5 = .ok (.iconst 1, 1) := by decide +kernel
theorem dX1_costOfLess_6 : decode cX1_costOfLess 6 = .ok (.ireturn, 1) := by decide +kernel
theorem dX1_costOfLess_7 : decode cX1_costOfLess 7 = .ok (.aload_n 0, 1) := by decide +kernel
theorem dX1_costOfLess_8 : decode cX1_costOfLess 8 = .ok (.getfield 9, 3) := by decide +kernel
theorem dX1_costOfLess_11 : decode cX1_costOfLess 11 = .ok (.iload_n 1, 1) := by decide +kernel
theorem dX1_costOfLess_12 : decode cX1_costOfLess 12 = .ok (.iaload, 1) := by decide +kernel
theorem dX1_costOfLess_13 : decode cX1_costOfLess 13 = .ok (.iload_n 2, 1) := by decide +kernel
theorem dX1_costOfLess_14 : decode cX1_costOfLess 14 = .ok (.if_icmp .le 8, 3) := by decide +kernel
theorem dX1_costOfLess_17 : decode cX1_costOfLess 17 = .ok (.bipush (-63), 2) := by decide +kernel
theorem dX1_costOfLess_19 : decode cX1_costOfLess 19 = .ok (.goto 5, 3) := by decide +kernel
theorem dX1_costOfLess_22 : decode cX1_costOfLess 22 = .ok (.bipush 65, 2) := by decide +kernel
theorem dX1_costOfLess_24 : decode cX1_costOfLess 24 = .ok (.ireturn, 1) := by decide +kernel
def f_X1_costOfLess (a1 : Int32) (a2 : Int32) (H : Hp) : Option (Int32 × Hp) := if a2 = (-1) then some (1, H) else gd a1 61 (if (gI H 1 7 (Int32.toNatClampNeg a1)) ≤ a2 then some (65, H) else some ((-63), H))
set_option maxRecDepth 100000 in
set_option maxHeartbeats 4000000 in
theorem s_X1_costOfLess {p : Program} {l : Launch} {e : Env} {s : State} {m : MethodId} {args : Array Value} {below : List Frame} {meth : Method} {c : Code} {A : Nat → Prop} {D : va_G} {K4 : kQ} {ad : Nat → Nat → Nat} {nr : Nat} {a1 : Int32} {a2 : Int32} {H : Hp} {res : Int32 × Hp} (hC : Cx p s m args c A s.heap D K4 3 RX1 cX1_costOfLess) (hret : meth.sig.returnType = (some .int) ∧ meth.locks = false) (h : f_X1_costOfLess a1 a2 H = some res) : V p l e ({ frames := 0, cells := 0, slots := 0, locals := 0 }) s m args below meth c A s.heap (QI below args s A D K4 ad nr res) D K4 ad nr 3 0 [(0, .ref (ad 1 3)), (1, .int a1), (2, .int a2)] [] H := by
  unfold f_X1_costOfLess at h
  refine V_iload_n hC 2 dX1_costOfLess_0 rfl ?_
  refine V_iconst (v := -1) hC dX1_costOfLess_1 (by decide) ?_
  refine V_icmp_ne (tgt := 7) hC dX1_costOfLess_2 (by decide) (fun c1 => ?_) (fun c1 => ?_)
  · have h := it_neg c1 h
    refine V_aload_n hC 0 dX1_costOfLess_7 rfl ?_
    refine V_getR (g := 1) (k := 3) (g' := 1) (k' := 7) hC 1 0 fl_X1_9 rfl rfl rfl rfl dX1_costOfLess_8 ?_
    refine V_iload_n hC 1 dX1_costOfLess_11 rfl ?_
    obtain ⟨hi, h⟩ := gd_some h
    refine V_iald (g := 1) (k := 7) hC rfl rfl hi dX1_costOfLess_12 ?_
    refine V_iload_n hC 2 dX1_costOfLess_13 rfl ?_
    refine V_icmp_le (tgt := 22) hC dX1_costOfLess_14 (by decide) (fun c2 => ?_) (fun c2 => ?_)
    · have h := it_pos c2 h
      refine V_bipush (v := 65) hC dX1_costOfLess_22 (by decide) ?_
      exact V_iret hC hret dX1_costOfLess_24 h
    · have h := it_neg c2 h
      refine V_bipush (v := -63) hC dX1_costOfLess_17 (by decide) ?_
      refine V_goto (tgt := 24) hC dX1_costOfLess_19 (by decide) ?_
      exact V_iret hC hret dX1_costOfLess_24 h
  · have h := it_pos c1 h
    refine V_iconst (v := 1) hC dX1_costOfLess_5 (by decide) ?_
    exact V_iret hC hret dX1_costOfLess_6 h
theorem c_X1_costOfLess (l : Launch) {nr : Nat} {a1 : Int32} {a2 : Int32} {H : Hp} {x : Int32} {H' : Hp} (h : f_X1_costOfLess a1 a2 H = some (x, H')) : CI l nr yX1_costOfLess cX1_costOfLess 3 (some .int) 0 0 (fun ad => [.ref (ad 1 3), .int a1, .int a2]) H x H' := by
  intro D K4 ad sz
  refine Met.ofV (by decide) (Nat.le_of_ble_eq_true rfl) ?_
  intro p e s m args below meth c hC hret hsz
  subst hsz
  exact s_X1_costOfLess hC hret h
theorem dX1_measure_0 : decode cX1_measure 0 = .ok (.iconst 0, 1) := by decide +kernel
theorem dX1_measure_1 : decode cX1_measure 1 = .ok (.istore_n 3, 1) := by decide +kernel
theorem dX1_measure_2 : decode cX1_measure 2 = .ok (.iload_n 3, 1) := by decide +kernel
theorem dX1_measure_3 : decode cX1_measure 3 = .ok (.aload_n 1, 1) := by decide +kernel
theorem dX1_measure_4 : decode cX1_measure 4 = .ok (.getfield 52, 3) := by decide +kernel
theorem dX1_measure_7 : decode cX1_measure 7 = .ok (.if_icmp .gt 37, 3) := by decide +kernel
theorem dX1_measure_10 : decode cX1_measure 10 = .ok (.aload_n 0, 1) := by decide +kernel
theorem dX1_measure_11 : decode cX1_measure 11 = .ok (.getfield 18, 3) := by decide +kernel
theorem dX1_measure_14 : decode cX1_measure 14 = .ok (.iload_n 3, 1) := by decide +kernel
theorem dX1_measure_15 : decode cX1_measure 15 = .ok (.aload_n 0, 1) := by decide +kernel
theorem dX1_measure_16 : decode cX1_measure 16 = .ok (.getfield 15, 3) := by decide +kernel
theorem dX1_measure_19 : decode cX1_measure 19 = .ok (.iload_n 3, 1) := by decide +kernel
theorem dX1_measure_20 : decode cX1_measure 20 = .ok (.iaload, 1) := by decide +kernel
theorem dX1_measure_21 : decode cX1_measure 21 = .ok (.ifCond .le 7, 3) := by decide +kernel
theorem dX1_measure_24 : decode cX1_measure 24 = .ok (.iconst 0, 1) := by decide +kernel
theorem dX1_measure_25 : decode cX1_measure 25 = .ok (.goto 5, 3) := by decide +kernel
theorem dX1_measure_28 : decode cX1_measure 28 = .ok (.ldc 64, 2) := by decide +kernel
theorem dX1_measure_30 : decode cX1_measure 30 = .ok (.iastore, 1) := by decide +kernel
theorem dX1_measure_31 : decode cX1_measure 31 = .ok (.aload_n 0, 1) := by decide +kernel
theorem dX1_measure_32 : decode cX1_measure 32 = .ok (.getfield 21, 3) := by decide +kernel
theorem dX1_measure_35 : decode cX1_measure 35 = .ok (.iload_n 3, 1) := by decide +kernel
theorem dX1_measure_36 : decode cX1_measure 36 = .ok (.iconst (-1), 1) := by decide +kernel
theorem dX1_measure_37 : decode cX1_measure 37 = .ok (.iastore, 1) := by decide +kernel
theorem dX1_measure_38 : decode cX1_measure 38 = .ok (.iinc 3 1, 3) := by decide +kernel
theorem dX1_measure_41 : decode cX1_measure 41 = .ok (.goto (-39), 3) := by decide +kernel
theorem dX1_measure_44 : decode cX1_measure 44 = .ok (.iconst 1, 1) := by decide +kernel
theorem dX1_measure_45 : decode cX1_measure 45 = .ok (.istore_n 3, 1) := by decide +kernel
theorem dX1_measure_46 : decode cX1_measure 46 = .ok (.iconst 0, 1) := by decide +kernel
theorem dX1_measure_47 : decode cX1_measure 47 = .ok (.istore 4, 2) := by decide +kernel
theorem dX1_measure_49 : decode cX1_measure 49 = .ok (.iload 4, 2) := by decide +kernel
theorem dX1_measure_51 : decode cX1_measure 51 = .ok (.aload_n 1, 1) := by decide +kernel
theorem dX1_measure_52 : decode cX1_measure 52 = .ok (.getfield 52, 3) := by decide +kernel
theorem dX1_measure_55 : decode cX1_measure 55 = .ok (.if_icmp .gt 128, 3) := by decide +kernel
theorem dX1_measure_58 : decode cX1_measure 58 = .ok (.iload_n 3, 1) := by decide +kernel
theorem dX1_measure_59 : decode cX1_measure 59 = .ok (.ifCond .eq 124, 3) := by decide +kernel
theorem dX1_measure_62 : decode cX1_measure 62 = .ok (.iconst 0, 1) := by decide +kernel
theorem dX1_measure_63 : decode cX1_measure 63 = .ok (.istore_n 3, 1) := by decide +kernel
theorem dX1_measure_64 : decode cX1_measure 64 = .ok (.iconst 0, 1) := by decide +kernel
theorem dX1_measure_65 : decode cX1_measure 65 = .ok (.istore 5, 2) := by decide +kernel
theorem dX1_measure_67 : decode cX1_measure 67 = .ok (.iload 5, 2) := by decide +kernel
theorem dX1_measure_69 : decode cX1_measure 69 = .ok (.aload_n 1, 1) := by decide +kernel
theorem dX1_measure_70 : decode cX1_measure 70 = .ok (.getfield 55, 3) := by decide +kernel
theorem dX1_measure_73 : decode cX1_measure 73 = .ok (.if_icmp .ge 104, 3) := by decide +kernel
theorem dX1_measure_76 : decode cX1_measure 76 = .ok (.iload 5, 2) := by decide +kernel
theorem dX1_measure_78 : decode cX1_measure 78 = .ok (.aload_n 1, 1) := by decide +kernel
theorem dX1_measure_79 : decode cX1_measure 79 = .ok (.getfield 40, 3) := by decide +kernel
theorem dX1_measure_82 : decode cX1_measure 82 = .ok (.if_icmp .ge 10, 3) := by decide +kernel
theorem dX1_measure_85 : decode cX1_measure 85 = .ok (.aload_n 2, 1) := by decide +kernel
theorem dX1_measure_86 : decode cX1_measure 86 = .ok (.iload 5, 2) := by decide +kernel
theorem dX1_measure_88 : decode cX1_measure 88 = .ok (.iaload, 1) := by decide +kernel
theorem dX1_measure_89 : decode cX1_measure 89 = .ok (.goto 4, 3) := by decide +kernel
theorem dX1_measure_92 : decode cX1_measure 92 = .ok (.iconst (-1), 1) := by decide +kernel
theorem dX1_measure_93 : decode cX1_measure 93 = .ok (.istore 6, 2) := by decide +kernel
theorem dX1_measure_95 : decode cX1_measure 95 = .ok (.aload_n 0, 1) := by decide +kernel
theorem dX1_measure_96 : decode cX1_measure 96 = .ok (.aload_n 1, 1) := by decide +kernel
theorem dX1_measure_97 : decode cX1_measure 97 = .ok (.getfield 58, 3) := by decide +kernel
theorem dX1_measure_100 : decode cX1_measure 100 = .ok (.iload 5, 2) := by decide +kernel
theorem dX1_measure_102 : decode cX1_measure 102 = .ok (.iaload, 1) := by decide +kernel
theorem dX1_measure_103 : decode cX1_measure 103 = .ok (.aload_n 1, 1) := by decide +kernel
theorem dX1_measure_104 : decode cX1_measure 104 = .ok (.getfield 61, 3) := by decide +kernel
theorem dX1_measure_107 : decode cX1_measure 107 = .ok (.iload 5, 2) := by decide +kernel
theorem dX1_measure_109 : decode cX1_measure 109 = .ok (.iaload, 1) := by decide +kernel
theorem dX1_measure_110 : decode cX1_measure 110 = .ok (.iload 5, 2) := by decide +kernel
theorem dX1_measure_112 : decode cX1_measure 112 = .ok (.aload_n 0, 1) := by decide +kernel
theorem dX1_measure_113 : decode cX1_measure 113 = .ok (.iload 5, 2) := by decide +kernel
theorem dX1_measure_115 : decode cX1_measure 115 = .ok (.iload 6, 2) := by decide +kernel
theorem dX1_measure_117 : decode cX1_measure 117 = .ok (.invokevirtual 65, 3) := by decide +kernel
theorem dX1_measure_120 : decode cX1_measure 120 = .ok (.invokevirtual 69, 3) := by decide +kernel
theorem dX1_measure_123 : decode cX1_measure 123 = .ok (.ifCond .eq 5, 3) := by decide +kernel
theorem dX1_measure_126 : decode cX1_measure 126 = .ok (.iconst 1, 1) := by decide +kernel
theorem dX1_measure_127 : decode cX1_measure 127 = .ok (.istore_n 3, 1) := by decide +kernel
theorem dX1_measure_128 : decode cX1_measure 128 = .ok (.aload_n 0, 1) := by decide +kernel
theorem dX1_measure_129 : decode cX1_measure 129 = .ok (.getfield 9, 3) := by decide +kernel
theorem dX1_measure_132 : decode cX1_measure 132 = .ok (.iload 5, 2) := by decide +kernel
theorem dX1_measure_134 : decode cX1_measure 134 = .ok (.iaload, 1) := by decide +kernel
theorem dX1_measure_135 : decode cX1_measure 135 = .ok (.ifCond .le 36, 3) := by decide +kernel
theorem dX1_measure_138 : decode cX1_measure 138 = .ok (.aload_n 0, 1) := by decide +kernel
theorem dX1_measure_139 : decode cX1_measure 139 = .ok (.aload_n 1, 1) := by decide +kernel
theorem dX1_measure_140 : decode cX1_measure 140 = .ok (.getfield 61, 3) := by decide +kernel
theorem dX1_measure_143 : decode cX1_measure 143 = .ok (.iload 5, 2) := by decide +kernel
theorem dX1_measure_145 : decode cX1_measure 145 = .ok (.iaload, 1) := by decide +kernel
theorem dX1_measure_146 : decode cX1_measure 146 = .ok (.aload_n 1, 1) := by decide +kernel
theorem dX1_measure_147 : decode cX1_measure 147 = .ok (.getfield 58, 3) := by decide +kernel
theorem dX1_measure_150 : decode cX1_measure 150 = .ok (.iload 5, 2) := by decide +kernel
theorem dX1_measure_152 : decode cX1_measure 152 = .ok (.iaload, 1) := by decide +kernel
theorem dX1_measure_153 : decode cX1_measure 153 = .ok (.iload 5, 2) := by decide +kernel
theorem dX1_measure_155 : decode cX1_measure 155 = .ok (.aload_n 0, 1) := by decide +kernel
theorem dX1_measure_156 : decode cX1_measure 156 = .ok (.iload 5, 2) := by decide +kernel
theorem dX1_measure_158 : decode cX1_measure 158 = .ok (.iload 6, 2) := by decide +kernel
theorem dX1_measure_160 : decode cX1_measure 160 = .ok (.invokevirtual 73, 3) := by decide +kernel
theorem dX1_measure_163 : decode cX1_measure 163 = .ok (.invokevirtual 69, 3) := by decide +kernel
theorem dX1_measure_166 : decode cX1_measure 166 = .ok (.ifCond .eq 5, 3) := by decide +kernel
theorem dX1_measure_169 : decode cX1_measure 169 = .ok (.iconst 1, 1) := by decide +kernel
theorem dX1_measure_170 : decode cX1_measure 170 = .ok (.istore_n 3, 1) := by decide +kernel
theorem dX1_measure_171 : decode cX1_measure 171 = .ok (.iinc 5 1, 3) := by decide +kernel
theorem dX1_measure_174 : decode cX1_measure 174 = .ok (.goto (-107), 3) := by decide +kernel
theorem dX1_measure_177 : decode cX1_measure 177 = .ok (.iinc 4 1, 3) := by decide +kernel
theorem dX1_measure_180 : decode cX1_measure 180 = .ok (.goto (-131), 3) := by decide +kernel
theorem dX1_measure_183 : decode cX1_measure 183 = .ok (.return_, 1) := by decide +kernel
def L_X1_measure_2 (r : Nat) (k : Hp → Option (Unit × Hp)) : Nat → Int32 → Hp → Option (Unit × Hp)
  | 0, _, _ => none
  | n + 1, x3, H => if (gI H (r + 2) 1 10) < x3 then k H else gd x3 21 (if (gI H 1 8 (Int32.toNatClampNeg x3)) ≤ 0 then gd x3 21 (hl (sI H 1 9 (Int32.toNatClampNeg x3) 1000000000) (fun (H3 : Hp) => gd x3 21 (hl (sI H3 1 10 (Int32.toNatClampNeg x3) (-1)) (fun (H4 : Hp) => vl (x3 + (1 : Int32)) (fun (v5 : Int32) => L_X1_measure_2 r k n v5 H4))))) else gd x3 21 (hl (sI H 1 9 (Int32.toNatClampNeg x3) 0) (fun (H6 : Hp) => gd x3 21 (hl (sI H6 1 10 (Int32.toNatClampNeg x3) (-1)) (fun (H7 : Hp) => vl (x3 + (1 : Int32)) (fun (v8 : Int32) => L_X1_measure_2 r k n v8 H7))))))
set_option maxRecDepth 100000 in
set_option maxHeartbeats 4000000 in
theorem sL_X1_measure_2 {p : Program} {l : Launch} {e : Env} {s : State} {m : MethodId} {args : Array Value} {below : List Frame} {meth : Method} {c : Code} {A : Nat → Prop} {D : va_G} {K4 : kQ} {ad : Nat → Nat → Nat} {nr : Nat} {r : Nat} {k : Hp → Option (Unit × Hp)} {res : Unit × Hp} (hC : Cx p s m args c A s.heap D K4 7 RX1 cX1_measure) (hret : meth.sig.returnType = none ∧ meth.locks = false) (hr_r : r < nr) (hk : ∀ (H : Hp), k H = some res → V p l e ({ frames := 1, cells := 0, slots := 0, locals := 24 }) s m args below meth c A s.heap (QU below args s A D K4 ad nr res) D K4 ad nr 7 44 [(0, .ref (ad 1 3)), (1, .ref (ad (r + 2) 1)), (2, .ref (ad (r + 2) 6))] [] H) : ∀ (n : Nat) (x3 : Int32) (H : Hp), L_X1_measure_2 r k n x3 H = some res → V p l e ({ frames := 1, cells := 0, slots := 0, locals := 24 }) s m args below meth c A s.heap (QU below args s A D K4 ad nr res) D K4 ad nr 7 2 [(0, .ref (ad 1 3)), (1, .ref (ad (r + 2) 1)), (2, .ref (ad (r + 2) 6)), (3, .int x3)] [] H := by
  intro n
  induction n with
  | zero => intro x3 H h; exact nomatch (show (none : Option (Unit × Hp)) = some res from h)
  | succ n ih =>
    intro x3 H h
    rw [L_X1_measure_2] at h
    refine V_iload_n hC 3 dX1_measure_2 rfl ?_
    refine V_aload_n hC 1 dX1_measure_3 rfl ?_
    refine V_getI (g := (r + 2)) (k := 1) hC 3 10 fl_X1_52 (okR hr_r rfl) rfl rfl dX1_measure_4 ?_
    refine V_icmp_gt (tgt := 44) hC dX1_measure_7 (by decide) (fun c1 => ?_) (fun c1 => ?_)
    · have h := it_pos c1 h
      refine V_lv (lv' := [(0, .ref (ad 1 3)), (1, .ref (ad (r + 2) 1)), (2, .ref (ad (r + 2) 6))]) [0, 1, 2] rfl ?_
      exact hk H h
    · have h := it_neg c1 h
      refine V_aload_n hC 0 dX1_measure_10 rfl ?_
      refine V_getR (g := 1) (k := 3) (g' := 1) (k' := 9) hC 1 2 fl_X1_18 rfl rfl rfl rfl dX1_measure_11 ?_
      refine V_iload_n hC 3 dX1_measure_14 rfl ?_
      refine V_aload_n hC 0 dX1_measure_15 rfl ?_
      refine V_getR (g := 1) (k := 3) (g' := 1) (k' := 8) hC 1 1 fl_X1_15 rfl rfl rfl rfl dX1_measure_16 ?_
      refine V_iload_n hC 3 dX1_measure_19 rfl ?_
      obtain ⟨hi, h⟩ := gd_some h
      refine V_iald (g := 1) (k := 8) hC rfl rfl hi dX1_measure_20 ?_
      refine V_if_le (tgt := 28) hC dX1_measure_21 (by decide) (fun c2 => ?_) (fun c2 => ?_)
      · have h := it_pos c2 h
        refine V_ldc hC dX1_measure_28 cl_X1_64 ?_
        obtain ⟨hi, h⟩ := gd_some h
        refine V_iast (g := 1) (k := 9) hC rfl rfl hi dX1_measure_30 ?_
        refine V_hl h (fun H3 h => ?_)
        refine V_aload_n hC 0 dX1_measure_31 rfl ?_
        refine V_getR (g := 1) (k := 3) (g' := 1) (k' := 10) hC 1 3 fl_X1_21 rfl rfl rfl rfl dX1_measure_32 ?_
        refine V_iload_n hC 3 dX1_measure_35 rfl ?_
        refine V_iconst (v := -1) hC dX1_measure_36 (by decide) ?_
        obtain ⟨hi, h⟩ := gd_some h
        refine V_iast (g := 1) (k := 10) hC rfl rfl hi dX1_measure_37 ?_
        refine V_hl h (fun H4 h => ?_)
        refine V_vi h (fun v5 hvv5 h => ?_)
        refine V_iinc (v := v5) (lv' := [(3, .int v5), (0, .ref (ad 1 3)), (1, .ref (ad (r + 2) 1)), (2, .ref (ad (r + 2) 6))]) hC 3 dX1_measure_38 rfl hvv5.symm (Nat.le_of_ble_eq_true rfl) rfl ?_
        refine V_goto (tgt := 2) hC dX1_measure_41 (by decide) ?_
        refine V_lv (lv' := [(0, .ref (ad 1 3)), (1, .ref (ad (r + 2) 1)), (2, .ref (ad (r + 2) 6)), (3, .int v5)]) [1, 2, 3, 0] rfl ?_
        exact ih v5 H4 h
      · have h := it_neg c2 h
        refine V_iconst (v := 0) hC dX1_measure_24 (by decide) ?_
        refine V_goto (tgt := 30) hC dX1_measure_25 (by decide) ?_
        obtain ⟨hi, h⟩ := gd_some h
        refine V_iast (g := 1) (k := 9) hC rfl rfl hi dX1_measure_30 ?_
        refine V_hl h (fun H6 h => ?_)
        refine V_aload_n hC 0 dX1_measure_31 rfl ?_
        refine V_getR (g := 1) (k := 3) (g' := 1) (k' := 10) hC 1 3 fl_X1_21 rfl rfl rfl rfl dX1_measure_32 ?_
        refine V_iload_n hC 3 dX1_measure_35 rfl ?_
        refine V_iconst (v := -1) hC dX1_measure_36 (by decide) ?_
        obtain ⟨hi, h⟩ := gd_some h
        refine V_iast (g := 1) (k := 10) hC rfl rfl hi dX1_measure_37 ?_
        refine V_hl h (fun H7 h => ?_)
        refine V_vi h (fun v8 hvv8 h => ?_)
        refine V_iinc (v := v8) (lv' := [(3, .int v8), (0, .ref (ad 1 3)), (1, .ref (ad (r + 2) 1)), (2, .ref (ad (r + 2) 6))]) hC 3 dX1_measure_38 rfl hvv8.symm (Nat.le_of_ble_eq_true rfl) rfl ?_
        refine V_goto (tgt := 2) hC dX1_measure_41 (by decide) ?_
        refine V_lv (lv' := [(0, .ref (ad 1 3)), (1, .ref (ad (r + 2) 1)), (2, .ref (ad (r + 2) 6)), (3, .int v8)]) [1, 2, 3, 0] rfl ?_
        exact ih v8 H7 h
def L_X1_measure_67 (r : Nat) (b4 : Int32) (k : Int32 → Hp → Option (Unit × Hp)) : Nat → Int32 → Int32 → Hp → Option (Unit × Hp)
  | 0, _, _, _ => none
  | n + 1, x3, x5, H => if (gI H (r + 2) 1 12) ≤ x5 then k x3 H else jn (fun (y14 : Int32) (H15 : Hp) => gd x5 61 (gd x5 61 (bnd (f_X1_costOfMore x5 y14 H15) (fun w17 H16 => bnd (f_X1_comeNearer (gI H15 (r + 2) 13 (Int32.toNatClampNeg x5)) (gI H15 (r + 2) 14 (Int32.toNatClampNeg x5)) x5 w17 H16) (fun w19 H18 => jn (fun (y21 : Int32) (H22 : Hp) => gd x5 61 (if (gI H22 1 7 (Int32.toNatClampNeg x5)) ≤ 0 then vl (x5 + (1 : Int32)) (fun (v24 : Int32) => L_X1_measure_67 r b4 k n y21 v24 H22) else gd x5 61 (gd x5 61 (bnd (f_X1_costOfLess x5 y14 H22) (fun w26 H25 => bnd (f_X1_comeNearer (gI H22 (r + 2) 14 (Int32.toNatClampNeg x5)) (gI H22 (r + 2) 13 (Int32.toNatClampNeg x5)) x5 w26 H25) (fun w28 H27 => if w28 = 0 then vl (x5 + (1 : Int32)) (fun (v30 : Int32) => L_X1_measure_67 r b4 k n y21 v30 H27) else vl (x5 + (1 : Int32)) (fun (v31 : Int32) => L_X1_measure_67 r b4 k n 1 v31 H27))))))) (fun j20 => if w19 = 0 then j20 x3 H18 else j20 1 H18)))))) (fun j13 => if (gI H (r + 2) 1 11) ≤ x5 then j13 (-1) H else gd x5 40 (j13 ((gI H (r + 2) 6 (Int32.toNatClampNeg x5))) H))
set_option maxRecDepth 100000 in
set_option maxHeartbeats 4000000 in
theorem sL_X1_measure_67 {p : Program} {l : Launch} {e : Env} {s : State} {m : MethodId} {args : Array Value} {below : List Frame} {meth : Method} {c : Code} {A : Nat → Prop} {D : va_G} {K4 : kQ} {ad : Nat → Nat → Nat} {nr : Nat} {r : Nat} {b4 : Int32} {k : Int32 → Hp → Option (Unit × Hp)} {res : Unit × Hp} (hC : Cx p s m args c A s.heap D K4 7 RX1 cX1_measure) (hret : meth.sig.returnType = none ∧ meth.locks = false) (hr_r : r < nr) (hk : ∀ (z3 : Int32) (H : Hp), k z3 H = some res → V p l e ({ frames := 1, cells := 0, slots := 0, locals := 24 }) s m args below meth c A s.heap (QU below args s A D K4 ad nr res) D K4 ad nr 7 177 [(0, .ref (ad 1 3)), (1, .ref (ad (r + 2) 1)), (2, .ref (ad (r + 2) 6)), (3, .int z3), (4, .int b4)] [] H) : ∀ (n : Nat) (x3 : Int32) (x5 : Int32) (H : Hp), L_X1_measure_67 r b4 k n x3 x5 H = some res → V p l e ({ frames := 1, cells := 0, slots := 0, locals := 24 }) s m args below meth c A s.heap (QU below args s A D K4 ad nr res) D K4 ad nr 7 67 [(0, .ref (ad 1 3)), (1, .ref (ad (r + 2) 1)), (2, .ref (ad (r + 2) 6)), (3, .int x3), (4, .int b4), (5, .int x5)] [] H := by
  intro n
  induction n with
  | zero => intro x3 x5 H h; exact nomatch (show (none : Option (Unit × Hp)) = some res from h)
  | succ n ih =>
    intro x3 x5 H h
    rw [L_X1_measure_67] at h
    refine V_iload hC 5 dX1_measure_67 rfl ?_
    refine V_aload_n hC 1 dX1_measure_69 rfl ?_
    refine V_getI (g := (r + 2)) (k := 1) hC 3 12 fl_X1_55 (okR hr_r rfl) rfl rfl dX1_measure_70 ?_
    refine V_icmp_ge (tgt := 177) hC dX1_measure_73 (by decide) (fun c12 => ?_) (fun c12 => ?_)
    · have h := it_pos c12 h
      refine V_lv (lv' := [(0, .ref (ad 1 3)), (1, .ref (ad (r + 2) 1)), (2, .ref (ad (r + 2) 6)), (3, .int x3), (4, .int b4)]) [0, 1, 2, 3, 4] rfl ?_
      exact hk x3 H h
    · have h := it_neg c12 h
      refine V_iload hC 5 dX1_measure_76 rfl ?_
      refine V_aload_n hC 1 dX1_measure_78 rfl ?_
      refine V_getI (g := (r + 2)) (k := 1) hC 3 11 fl_X1_40 (okR hr_r rfl) rfl rfl dX1_measure_79 ?_
      refine V_jn1 (pj := 93) (lj := fun y14 => [(0, .ref (ad 1 3)), (1, .ref (ad (r + 2) 1)), (2, .ref (ad (r + 2) 6)), (3, .int x3), (4, .int b4), (5, .int x5)]) (sj := fun y14 => [.int y14]) h (fun y14 H15 h => ?_) (fun hj13 h => ?_)
      · refine V_istore (lv' := [(6, .int y14), (0, .ref (ad 1 3)), (1, .ref (ad (r + 2) 1)), (2, .ref (ad (r + 2) 6)), (3, .int x3), (4, .int b4), (5, .int x5)]) hC dX1_measure_93 (Nat.le_of_ble_eq_true rfl) rfl ?_
        refine V_aload_n hC 1 dX1_measure_95 rfl ?_
        refine V_aload_n hC 2 dX1_measure_96 rfl ?_
        refine V_getR (g := (r + 2)) (k := 1) (g' := (r + 2)) (k' := 13) hC 3 5 fl_X1_58 (okR hr_r rfl) rfl rfl rfl dX1_measure_97 ?_
        refine V_iload hC 6 dX1_measure_100 rfl ?_
        obtain ⟨hi, h⟩ := gd_some h
        refine V_iald (g := (r + 2)) (k := 13) hC (okR hr_r rfl) rfl hi dX1_measure_102 ?_
        refine V_aload_n hC 2 dX1_measure_103 rfl ?_
        refine V_getR (g := (r + 2)) (k := 1) (g' := (r + 2)) (k' := 14) hC 3 6 fl_X1_61 (okR hr_r rfl) rfl rfl rfl dX1_measure_104 ?_
        refine V_iload hC 6 dX1_measure_107 rfl ?_
        obtain ⟨hi, h⟩ := gd_some h
        refine V_iald (g := (r + 2)) (k := 14) hC (okR hr_r rfl) rfl hi dX1_measure_109 ?_
        refine V_iload hC 6 dX1_measure_110 rfl ?_
        refine V_aload_n hC 1 dX1_measure_112 rfl ?_
        refine V_iload hC 6 dX1_measure_113 rfl ?_
        refine V_iload hC 0 dX1_measure_115 rfl ?_
        obtain ⟨w17, H16, hc, h⟩ := bnd_some h
        refine V_calli (g := 1) (k := 3) (As := [.int x5, .int y14]) (st := [.int x5, .int (gI H15 (r + 2) 14 (Int32.toNatClampNeg x5)), .int (gI H15 (r + 2) 13 (Int32.toNatClampNeg x5)), .ref (ad 1 3)]) hC (c_X1_costOfMore l hc) rfl ml_X1_65 ⟨Nat.le_of_ble_eq_true rfl, Nat.le_of_ble_eq_true rfl⟩ rfl rfl rfl (Nat.le_of_ble_eq_true rfl) dX1_measure_117 ?_
        obtain ⟨w19, H18, hc, h⟩ := bnd_some h
        refine V_calli (g := 1) (k := 3) (As := [.int (gI H15 (r + 2) 13 (Int32.toNatClampNeg x5)), .int (gI H15 (r + 2) 14 (Int32.toNatClampNeg x5)), .int x5, .int w17]) (st := []) hC (c_X1_comeNearer l hc) rfl ml_X1_69 ⟨Nat.le_of_ble_eq_true rfl, Nat.le_of_ble_eq_true rfl⟩ rfl rfl rfl (Nat.le_of_ble_eq_true rfl) dX1_measure_120 ?_
        refine V_jn1 (pj := 128) (lj := fun y21 => [(0, .ref (ad 1 3)), (1, .ref (ad (r + 2) 1)), (2, .ref (ad (r + 2) 6)), (3, .int y21), (4, .int b4), (5, .int x5), (6, .int y14)]) (sj := fun y21 => []) h (fun y21 H22 h => ?_) (fun hj20 h => ?_)
        · refine V_aload_n hC 0 dX1_measure_128 rfl ?_
          refine V_getR (g := 1) (k := 3) (g' := 1) (k' := 7) hC 1 0 fl_X1_9 rfl rfl rfl rfl dX1_measure_129 ?_
          refine V_iload hC 5 dX1_measure_132 rfl ?_
          obtain ⟨hi, h⟩ := gd_some h
          refine V_iald (g := 1) (k := 7) hC rfl rfl hi dX1_measure_134 ?_
          refine V_if_le (tgt := 171) hC dX1_measure_135 (by decide) (fun c23 => ?_) (fun c23 => ?_)
          · have h := it_pos c23 h
            refine V_vi h (fun v24 hvv24 h => ?_)
            refine V_iinc (v := v24) (lv' := [(5, .int v24), (0, .ref (ad 1 3)), (1, .ref (ad (r + 2) 1)), (2, .ref (ad (r + 2) 6)), (3, .int y21), (4, .int b4), (6, .int y14)]) hC 5 dX1_measure_171 rfl hvv24.symm (Nat.le_of_ble_eq_true rfl) rfl ?_
            refine V_goto (tgt := 67) hC dX1_measure_174 (by decide) ?_
            refine V_lv (lv' := [(0, .ref (ad 1 3)), (1, .ref (ad (r + 2) 1)), (2, .ref (ad (r + 2) 6)), (3, .int y21), (4, .int b4), (5, .int v24)]) [1, 2, 3, 4, 5, 0] rfl ?_
            exact ih y21 v24 H22 h
          · have h := it_neg c23 h
            refine V_aload_n hC 0 dX1_measure_138 rfl ?_
            refine V_aload_n hC 1 dX1_measure_139 rfl ?_
            refine V_getR (g := (r + 2)) (k := 1) (g' := (r + 2)) (k' := 14) hC 3 6 fl_X1_61 (okR hr_r rfl) rfl rfl rfl dX1_measure_140 ?_
            refine V_iload hC 5 dX1_measure_143 rfl ?_
            obtain ⟨hi, h⟩ := gd_some h
            refine V_iald (g := (r + 2)) (k := 14) hC (okR hr_r rfl) rfl hi dX1_measure_145 ?_
            refine V_aload_n hC 1 dX1_measure_146 rfl ?_
            refine V_getR (g := (r + 2)) (k := 1) (g' := (r + 2)) (k' := 13) hC 3 5 fl_X1_58 (okR hr_r rfl) rfl rfl rfl dX1_measure_147 ?_
            refine V_iload hC 5 dX1_measure_150 rfl ?_
            obtain ⟨hi, h⟩ := gd_some h
            refine V_iald (g := (r + 2)) (k := 13) hC (okR hr_r rfl) rfl hi dX1_measure_152 ?_
            refine V_iload hC 5 dX1_measure_153 rfl ?_
            refine V_aload_n hC 0 dX1_measure_155 rfl ?_
            refine V_iload hC 5 dX1_measure_156 rfl ?_
            refine V_iload hC 6 dX1_measure_158 rfl ?_
            obtain ⟨w26, H25, hc, h⟩ := bnd_some h
            refine V_calli (g := 1) (k := 3) (As := [.int x5, .int y14]) (st := [.int x5, .int (gI H22 (r + 2) 13 (Int32.toNatClampNeg x5)), .int (gI H22 (r + 2) 14 (Int32.toNatClampNeg x5)), .ref (ad 1 3)]) hC (c_X1_costOfLess l hc) rfl ml_X1_73 ⟨Nat.le_of_ble_eq_true rfl, Nat.le_of_ble_eq_true rfl⟩ rfl rfl rfl (Nat.le_of_ble_eq_true rfl) dX1_measure_160 ?_
            obtain ⟨w28, H27, hc, h⟩ := bnd_some h
            refine V_calli (g := 1) (k := 3) (As := [.int (gI H22 (r + 2) 14 (Int32.toNatClampNeg x5)), .int (gI H22 (r + 2) 13 (Int32.toNatClampNeg x5)), .int x5, .int w26]) (st := []) hC (c_X1_comeNearer l hc) rfl ml_X1_69 ⟨Nat.le_of_ble_eq_true rfl, Nat.le_of_ble_eq_true rfl⟩ rfl rfl rfl (Nat.le_of_ble_eq_true rfl) dX1_measure_163 ?_
            refine V_if_eq (tgt := 171) hC dX1_measure_166 (by decide) (fun c29 => ?_) (fun c29 => ?_)
            · have h := it_pos c29 h
              refine V_vi h (fun v30 hvv30 h => ?_)
              refine V_iinc (v := v30) (lv' := [(5, .int v30), (0, .ref (ad 1 3)), (1, .ref (ad (r + 2) 1)), (2, .ref (ad (r + 2) 6)), (3, .int y21), (4, .int b4), (6, .int y14)]) hC 5 dX1_measure_171 rfl hvv30.symm (Nat.le_of_ble_eq_true rfl) rfl ?_
              refine V_goto (tgt := 67) hC dX1_measure_174 (by decide) ?_
              refine V_lv (lv' := [(0, .ref (ad 1 3)), (1, .ref (ad (r + 2) 1)), (2, .ref (ad (r + 2) 6)), (3, .int y21), (4, .int b4), (5, .int v30)]) [1, 2, 3, 4, 5, 0] rfl ?_
              exact ih y21 v30 H27 h
            · have h := it_neg c29 h
              refine V_iconst (v := 1) hC dX1_measure_169 (by decide) ?_
              refine V_istore_n (lv' := [(3, .int 1), (0, .ref (ad 1 3)), (1, .ref (ad (r + 2) 1)), (2, .ref (ad (r + 2) 6)), (4, .int b4), (5, .int x5), (6, .int y14)]) hC dX1_measure_170 (Nat.le_of_ble_eq_true rfl) rfl ?_
              refine V_vi h (fun v31 hvv31 h => ?_)
              refine V_iinc (v := v31) (lv' := [(5, .int v31), (3, .int 1), (0, .ref (ad 1 3)), (1, .ref (ad (r + 2) 1)), (2, .ref (ad (r + 2) 6)), (4, .int b4), (6, .int y14)]) hC 5 dX1_measure_171 rfl hvv31.symm (Nat.le_of_ble_eq_true rfl) rfl ?_
              refine V_goto (tgt := 67) hC dX1_measure_174 (by decide) ?_
              refine V_lv (lv' := [(0, .ref (ad 1 3)), (1, .ref (ad (r + 2) 1)), (2, .ref (ad (r + 2) 6)), (3, .int 1), (4, .int b4), (5, .int v31)]) [2, 3, 4, 1, 5, 0] rfl ?_
              exact ih 1 v31 H27 h
        · refine V_if_eq (tgt := 128) hC dX1_measure_123 (by decide) (fun c32 => ?_) (fun c32 => ?_)
          · have h := it_pos c32 h
            refine V_lv (lv' := [(0, .ref (ad 1 3)), (1, .ref (ad (r + 2) 1)), (2, .ref (ad (r + 2) 6)), (3, .int x3), (4, .int b4), (5, .int x5), (6, .int y14)]) [1, 2, 3, 4, 5, 6, 0] rfl ?_
            exact hj20 x3 H18 h
          · have h := it_neg c32 h
            refine V_iconst (v := 1) hC dX1_measure_126 (by decide) ?_
            refine V_istore_n (lv' := [(3, .int 1), (6, .int y14), (0, .ref (ad 1 3)), (1, .ref (ad (r + 2) 1)), (2, .ref (ad (r + 2) 6)), (4, .int b4), (5, .int x5)]) hC dX1_measure_127 (Nat.le_of_ble_eq_true rfl) rfl ?_
            refine V_lv (lv' := [(0, .ref (ad 1 3)), (1, .ref (ad (r + 2) 1)), (2, .ref (ad (r + 2) 6)), (3, .int 1), (4, .int b4), (5, .int x5), (6, .int y14)]) [2, 3, 4, 0, 5, 6, 1] rfl ?_
            exact hj20 1 H18 h
      · refine V_icmp_ge (tgt := 92) hC dX1_measure_82 (by decide) (fun c33 => ?_) (fun c33 => ?_)
        · have h := it_pos c33 h
          refine V_iconst (v := -1) hC dX1_measure_92 (by decide) ?_
          refine V_lv (lv' := [(0, .ref (ad 1 3)), (1, .ref (ad (r + 2) 1)), (2, .ref (ad (r + 2) 6)), (3, .int x3), (4, .int b4), (5, .int x5)]) [0, 1, 2, 3, 4, 5] rfl ?_
          exact hj13 (-1) H h
        · have h := it_neg c33 h
          refine V_aload_n hC 2 dX1_measure_85 rfl ?_
          refine V_iload hC 5 dX1_measure_86 rfl ?_
          obtain ⟨hi, h⟩ := gd_some h
          refine V_iald (g := (r + 2)) (k := 6) hC (okR hr_r rfl) rfl hi dX1_measure_88 ?_
          refine V_goto (tgt := 93) hC dX1_measure_89 (by decide) ?_
          refine V_lv (lv' := [(0, .ref (ad 1 3)), (1, .ref (ad (r + 2) 1)), (2, .ref (ad (r + 2) 6)), (3, .int x3), (4, .int b4), (5, .int x5)]) [0, 1, 2, 3, 4, 5] rfl ?_
          exact hj13 ((gI H (r + 2) 6 (Int32.toNatClampNeg x5))) H h
def L_X1_measure_49 (r : Nat) (k : Hp → Option (Unit × Hp)) : Nat → Int32 → Int32 → Hp → Option (Unit × Hp)
  | 0, _, _, _ => none
  | n + 1, x3, x4, H => if (gI H (r + 2) 1 10) < x4 then k H else if x3 = 0 then k H else L_X1_measure_67 r x4 (fun (z34 : Int32) (H35 : Hp) => vl (x4 + (1 : Int32)) (fun (v36 : Int32) => L_X1_measure_49 r k n z34 v36 H35)) FU 0 0 H
set_option maxRecDepth 100000 in
set_option maxHeartbeats 4000000 in
theorem sL_X1_measure_49 {p : Program} {l : Launch} {e : Env} {s : State} {m : MethodId} {args : Array Value} {below : List Frame} {meth : Method} {c : Code} {A : Nat → Prop} {D : va_G} {K4 : kQ} {ad : Nat → Nat → Nat} {nr : Nat} {r : Nat} {k : Hp → Option (Unit × Hp)} {res : Unit × Hp} (hC : Cx p s m args c A s.heap D K4 7 RX1 cX1_measure) (hret : meth.sig.returnType = none ∧ meth.locks = false) (hr_r : r < nr) (hk : ∀ (H : Hp), k H = some res → V p l e ({ frames := 1, cells := 0, slots := 0, locals := 24 }) s m args below meth c A s.heap (QU below args s A D K4 ad nr res) D K4 ad nr 7 183 [] [] H) : ∀ (n : Nat) (x3 : Int32) (x4 : Int32) (H : Hp), L_X1_measure_49 r k n x3 x4 H = some res → V p l e ({ frames := 1, cells := 0, slots := 0, locals := 24 }) s m args below meth c A s.heap (QU below args s A D K4 ad nr res) D K4 ad nr 7 49 [(0, .ref (ad 1 3)), (1, .ref (ad (r + 2) 1)), (2, .ref (ad (r + 2) 6)), (3, .int x3), (4, .int x4)] [] H := by
  intro n
  induction n with
  | zero => intro x3 x4 H h; exact nomatch (show (none : Option (Unit × Hp)) = some res from h)
  | succ n ih =>
    intro x3 x4 H h
    rw [L_X1_measure_49] at h
    refine V_iload hC 4 dX1_measure_49 rfl ?_
    refine V_aload_n hC 1 dX1_measure_51 rfl ?_
    refine V_getI (g := (r + 2)) (k := 1) hC 3 10 fl_X1_52 (okR hr_r rfl) rfl rfl dX1_measure_52 ?_
    refine V_icmp_gt (tgt := 183) hC dX1_measure_55 (by decide) (fun c10 => ?_) (fun c10 => ?_)
    · have h := it_pos c10 h
      refine V_lv (lv' := []) [] rfl ?_
      exact hk H h
    · have h := it_neg c10 h
      refine V_iload_n hC 3 dX1_measure_58 rfl ?_
      refine V_if_eq (tgt := 183) hC dX1_measure_59 (by decide) (fun c11 => ?_) (fun c11 => ?_)
      · have h := it_pos c11 h
        refine V_lv (lv' := []) [] rfl ?_
        exact hk H h
      · have h := it_neg c11 h
        refine V_iconst (v := 0) hC dX1_measure_62 (by decide) ?_
        refine V_istore_n (lv' := [(3, .int 0), (0, .ref (ad 1 3)), (1, .ref (ad (r + 2) 1)), (2, .ref (ad (r + 2) 6)), (4, .int x4)]) hC dX1_measure_63 (Nat.le_of_ble_eq_true rfl) rfl ?_
        refine V_iconst (v := 0) hC dX1_measure_64 (by decide) ?_
        refine V_istore (lv' := [(5, .int 0), (3, .int 0), (0, .ref (ad 1 3)), (1, .ref (ad (r + 2) 1)), (2, .ref (ad (r + 2) 6)), (4, .int x4)]) hC dX1_measure_65 (Nat.le_of_ble_eq_true rfl) rfl ?_
        refine V_lv (lv' := [(0, .ref (ad 1 3)), (1, .ref (ad (r + 2) 1)), (2, .ref (ad (r + 2) 6)), (3, .int 0), (4, .int x4), (5, .int 0)]) [2, 3, 4, 1, 5, 0] rfl ?_
        refine sL_X1_measure_67 hC hret hr_r (fun z34 H35 h => ?_) _ 0 0 H h
        refine V_vi h (fun v36 hvv36 h => ?_)
        refine V_iinc (v := v36) (lv' := [(4, .int v36), (0, .ref (ad 1 3)), (1, .ref (ad (r + 2) 1)), (2, .ref (ad (r + 2) 6)), (3, .int z34)]) hC 4 dX1_measure_177 rfl hvv36.symm (Nat.le_of_ble_eq_true rfl) rfl ?_
        refine V_goto (tgt := 49) hC dX1_measure_180 (by decide) ?_
        refine V_lv (lv' := [(0, .ref (ad 1 3)), (1, .ref (ad (r + 2) 1)), (2, .ref (ad (r + 2) 6)), (3, .int z34), (4, .int v36)]) [1, 2, 3, 4, 0] rfl ?_
        exact ih z34 v36 H35 h
def f_X1_measure (r : Nat) (H : Hp) : Option (Unit × Hp) := L_X1_measure_2 r (fun (H9 : Hp) => L_X1_measure_49 r (fun (H37 : Hp) => some ((), H37)) FU 1 0 H9) FU 0 H
set_option maxRecDepth 100000 in
set_option maxHeartbeats 4000000 in
theorem s_X1_measure {p : Program} {l : Launch} {e : Env} {s : State} {m : MethodId} {args : Array Value} {below : List Frame} {meth : Method} {c : Code} {A : Nat → Prop} {D : va_G} {K4 : kQ} {ad : Nat → Nat → Nat} {nr : Nat} {r : Nat} {H : Hp} {res : Unit × Hp} (hC : Cx p s m args c A s.heap D K4 7 RX1 cX1_measure) (hret : meth.sig.returnType = none ∧ meth.locks = false) (hr_r : r < nr) (h : f_X1_measure r H = some res) : V p l e ({ frames := 1, cells := 0, slots := 0, locals := 24 }) s m args below meth c A s.heap (QU below args s A D K4 ad nr res) D K4 ad nr 7 0 [(0, .ref (ad 1 3)), (1, .ref (ad (r + 2) 1)), (2, .ref (ad (r + 2) 6))] [] H := by
  unfold f_X1_measure at h
  refine V_iconst (v := 0) hC dX1_measure_0 (by decide) ?_
  refine V_istore_n (lv' := [(3, .int 0), (0, .ref (ad 1 3)), (1, .ref (ad (r + 2) 1)), (2, .ref (ad (r + 2) 6))]) hC dX1_measure_1 (Nat.le_of_ble_eq_true rfl) rfl ?_
  refine V_lv (lv' := [(0, .ref (ad 1 3)), (1, .ref (ad (r + 2) 1)), (2, .ref (ad (r + 2) 6)), (3, .int 0)]) [1, 2, 3, 0] rfl ?_
  refine sL_X1_measure_2 hC hret hr_r (fun H9 h => ?_) _ 0 H h
  refine V_iconst (v := 1) hC dX1_measure_44 (by decide) ?_
  refine V_istore_n (lv' := [(3, .int 1), (0, .ref (ad 1 3)), (1, .ref (ad (r + 2) 1)), (2, .ref (ad (r + 2) 6))]) hC dX1_measure_45 (Nat.le_of_ble_eq_true rfl) rfl ?_
  refine V_iconst (v := 0) hC dX1_measure_46 (by decide) ?_
  refine V_istore (lv' := [(4, .int 0), (3, .int 1), (0, .ref (ad 1 3)), (1, .ref (ad (r + 2) 1)), (2, .ref (ad (r + 2) 6))]) hC dX1_measure_47 (Nat.le_of_ble_eq_true rfl) rfl ?_
  refine V_lv (lv' := [(0, .ref (ad 1 3)), (1, .ref (ad (r + 2) 1)), (2, .ref (ad (r + 2) 6)), (3, .int 1), (4, .int 0)]) [2, 3, 4, 1, 0] rfl ?_
  refine sL_X1_measure_49 hC hret hr_r (fun H37 h => ?_) _ 1 0 H9 h
  exact V_vret hC hret dX1_measure_183 h
theorem c_X1_measure (l : Launch) {nr : Nat} {r : Nat} (hr_r : r < nr) {H : Hp} {x : Unit} {H' : Hp} (h : f_X1_measure r H = some (x, H')) : CU l nr yX1_measure cX1_measure 7 none 1 24 (fun ad => [.ref (ad 1 3), .ref (ad (r + 2) 1), .ref (ad (r + 2) 6)]) H x H' := by
  intro D K4 ad sz
  refine Met.ofV (by decide) (Nat.le_of_ble_eq_true rfl) ?_
  intro p e s m args below meth c hC hret hsz
  subst hsz
  exact s_X1_measure hC hret hr_r h
theorem dX1_nearestLack_0 : decode cX1_nearestLack 0 = .ok (.iconst (-1), 1) := by decide +kernel
theorem dX1_nearestLack_1 : decode cX1_nearestLack 1 = .ok (.istore_n 2, 1) := by decide +kernel
theorem dX1_nearestLack_2 : decode cX1_nearestLack 2 = .ok (.iconst 0, 1) := by decide +kernel
theorem dX1_nearestLack_3 : decode cX1_nearestLack 3 = .ok (.istore_n 3, 1) := by decide +kernel
theorem dX1_nearestLack_4 : decode cX1_nearestLack 4 = .ok (.iload_n 3, 1) := by decide +kernel
theorem dX1_nearestLack_5 : decode cX1_nearestLack 5 = .ok (.aload_n 1, 1) := by decide +kernel
theorem dX1_nearestLack_6 : decode cX1_nearestLack 6 = .ok (.getfield 52, 3) := by decide +kernel
theorem dX1_nearestLack_9 : decode cX1_nearestLack 9 = .ok (.if_icmp .gt 51, 3) := by decide +kernel
theorem dX1_nearestLack_12 : decode cX1_nearestLack 12 = .ok (.aload_n 0, 1) := by decide +kernel
theorem dX1_nearestLack_13 : decode cX1_nearestLack 13 = .ok (.getfield 15, 3) := by decide +kernel
theorem dX1_nearestLack_16 : decode cX1_nearestLack 16 = .ok (.iload_n 3, 1) := by decide +kernel
theorem dX1_nearestLack_17 : decode cX1_nearestLack 17 = .ok (.iaload, 1) := by decide +kernel
theorem dX1_nearestLack_18 : decode cX1_nearestLack 18 = .ok (.ifCond .ge 36, 3) := by decide +kernel
theorem dX1_nearestLack_21 : decode cX1_nearestLack 21 = .ok (.aload_n 0, 1) := by decide +kernel
theorem dX1_nearestLack_22 : decode cX1_nearestLack 22 = .ok (.getfield 18, 3) := by decide +kernel
theorem dX1_nearestLack_25 : decode cX1_nearestLack 25 = .ok (.iload_n 3, 1) := by decide +kernel
theorem dX1_nearestLack_26 : decode cX1_nearestLack 26 = .ok (.iaload, 1) := by decide +kernel
theorem dX1_nearestLack_27 : decode cX1_nearestLack 27 = .ok (.ldc 64, 2) := by decide +kernel
theorem dX1_nearestLack_29 : decode cX1_nearestLack 29 = .ok (.if_icmp .ge 25, 3) := by decide +kernel
theorem dX1_nearestLack_32 : decode cX1_nearestLack 32 = .ok (.iload_n 2, 1) := by decide +kernel
theorem dX1_nearestLack_33 : decode cX1_nearestLack 33 = .ok (.iconst (-1), 1) := by decide +kernel
theorem dX1_nearestLack_34 : decode cX1_nearestLack 34 = .ok (.if_icmp .eq 18, 3) := by decide +kernel
theorem dX1_nearestLack_37 : decode cX1_nearestLack 37 = .ok (.aload_n 0, 1) := by decide +kernel
theorem dX1_nearestLack_38 : decode cX1_nearestLack 38 = .ok (.getfield 18, 3) := by decide +kernel
theorem dX1_nearestLack_41 : decode cX1_nearestLack 41 = .ok (.iload_n 3, 1) := by decide +kernel
theorem dX1_nearestLack_42 : decode cX1_nearestLack 42 = .ok (.iaload, 1) := by decide +kernel
theorem dX1_nearestLack_43 : decode cX1_nearestLack 43 = .ok (.aload_n 0, 1) := by decide +kernel
theorem dX1_nearestLack_44 : decode cX1_nearestLack 44 = .ok (.getfield 18, 3) := by decide +kernel
theorem dX1_nearestLack_47 : decode cX1_nearestLack 47 = .ok (.iload_n 2, 1) := by decide +kernel
theorem dX1_nearestLack_48 : decode cX1_nearestLack 48 = .ok (.iaload, 1) := by decide +kernel
theorem dX1_nearestLack_49 : decode cX1_nearestLack 49 = .ok (.if_icmp .ge 5, 3) := by decide +kernel
theorem dX1_nearestLack_52 : decode cX1_nearestLack 52 = .ok (.iload_n 3, 1) := by decide +kernel
theorem dX1_nearestLack_53 : decode cX1_nearestLack 53 = .ok (.istore_n 2, 1) := by decide +kernel
theorem dX1_nearestLack_54 : decode cX1_nearestLack 54 = .ok (.iinc 3 1, 3) := by decide +kernel
theorem dX1_nearestLack_57 : decode cX1_nearestLack 57 = .ok (.goto (-53), 3) := by decide +kernel
theorem dX1_nearestLack_60 : decode cX1_nearestLack 60 = .ok (.iload_n 2, 1) := by decide +kernel
theorem dX1_nearestLack_61 : decode cX1_nearestLack 61 = .ok (.ireturn, 1) := by decide +kernel
def L_X1_nearestLack_4 (r : Nat) (k : Int32 → Hp → Option (Int32 × Hp)) : Nat → Int32 → Int32 → Hp → Option (Int32 × Hp)
  | 0, _, _, _ => none
  | n + 1, x2, x3, H => if (gI H (r + 2) 1 10) < x3 then k x2 H else gd x3 21 (if 0 ≤ (gI H 1 8 (Int32.toNatClampNeg x3)) then vl (x3 + (1 : Int32)) (fun (v3 : Int32) => L_X1_nearestLack_4 r k n x2 v3 H) else gd x3 21 (if 1000000000 ≤ (gI H 1 9 (Int32.toNatClampNeg x3)) then vl (x3 + (1 : Int32)) (fun (v5 : Int32) => L_X1_nearestLack_4 r k n x2 v5 H) else if x2 = (-1) then vl (x3 + (1 : Int32)) (fun (v7 : Int32) => L_X1_nearestLack_4 r k n x3 v7 H) else gd x3 21 (gd x2 21 (if (gI H 1 9 (Int32.toNatClampNeg x2)) ≤ (gI H 1 9 (Int32.toNatClampNeg x3)) then vl (x3 + (1 : Int32)) (fun (v9 : Int32) => L_X1_nearestLack_4 r k n x2 v9 H) else vl (x3 + (1 : Int32)) (fun (v10 : Int32) => L_X1_nearestLack_4 r k n x3 v10 H)))))
set_option maxRecDepth 100000 in
set_option maxHeartbeats 4000000 in
theorem sL_X1_nearestLack_4 {p : Program} {l : Launch} {e : Env} {s : State} {m : MethodId} {args : Array Value} {below : List Frame} {meth : Method} {c : Code} {A : Nat → Prop} {D : va_G} {K4 : kQ} {ad : Nat → Nat → Nat} {nr : Nat} {r : Nat} {k : Int32 → Hp → Option (Int32 × Hp)} {res : Int32 × Hp} (hC : Cx p s m args c A s.heap D K4 4 RX1 cX1_nearestLack) (hret : meth.sig.returnType = (some .int) ∧ meth.locks = false) (hr_r : r < nr) (hk : ∀ (z2 : Int32) (H : Hp), k z2 H = some res → V p l e ({ frames := 0, cells := 0, slots := 0, locals := 0 }) s m args below meth c A s.heap (QI below args s A D K4 ad nr res) D K4 ad nr 4 60 [(2, .int z2)] [] H) : ∀ (n : Nat) (x2 : Int32) (x3 : Int32) (H : Hp), L_X1_nearestLack_4 r k n x2 x3 H = some res → V p l e ({ frames := 0, cells := 0, slots := 0, locals := 0 }) s m args below meth c A s.heap (QI below args s A D K4 ad nr res) D K4 ad nr 4 4 [(0, .ref (ad 1 3)), (1, .ref (ad (r + 2) 1)), (2, .int x2), (3, .int x3)] [] H := by
  intro n
  induction n with
  | zero => intro x2 x3 H h; exact nomatch (show (none : Option (Int32 × Hp)) = some res from h)
  | succ n ih =>
    intro x2 x3 H h
    rw [L_X1_nearestLack_4] at h
    refine V_iload_n hC 3 dX1_nearestLack_4 rfl ?_
    refine V_aload_n hC 1 dX1_nearestLack_5 rfl ?_
    refine V_getI (g := (r + 2)) (k := 1) hC 3 10 fl_X1_52 (okR hr_r rfl) rfl rfl dX1_nearestLack_6 ?_
    refine V_icmp_gt (tgt := 60) hC dX1_nearestLack_9 (by decide) (fun c1 => ?_) (fun c1 => ?_)
    · have h := it_pos c1 h
      refine V_lv (lv' := [(2, .int x2)]) [2] rfl ?_
      exact hk x2 H h
    · have h := it_neg c1 h
      refine V_aload_n hC 0 dX1_nearestLack_12 rfl ?_
      refine V_getR (g := 1) (k := 3) (g' := 1) (k' := 8) hC 1 1 fl_X1_15 rfl rfl rfl rfl dX1_nearestLack_13 ?_
      refine V_iload_n hC 3 dX1_nearestLack_16 rfl ?_
      obtain ⟨hi, h⟩ := gd_some h
      refine V_iald (g := 1) (k := 8) hC rfl rfl hi dX1_nearestLack_17 ?_
      refine V_if_ge (tgt := 54) hC dX1_nearestLack_18 (by decide) (fun c2 => ?_) (fun c2 => ?_)
      · have h := it_pos c2 h
        refine V_vi h (fun v3 hvv3 h => ?_)
        refine V_iinc (v := v3) (lv' := [(3, .int v3), (0, .ref (ad 1 3)), (1, .ref (ad (r + 2) 1)), (2, .int x2)]) hC 3 dX1_nearestLack_54 rfl hvv3.symm (Nat.le_of_ble_eq_true rfl) rfl ?_
        refine V_goto (tgt := 4) hC dX1_nearestLack_57 (by decide) ?_
        refine V_lv (lv' := [(0, .ref (ad 1 3)), (1, .ref (ad (r + 2) 1)), (2, .int x2), (3, .int v3)]) [1, 2, 3, 0] rfl ?_
        exact ih x2 v3 H h
      · have h := it_neg c2 h
        refine V_aload_n hC 0 dX1_nearestLack_21 rfl ?_
        refine V_getR (g := 1) (k := 3) (g' := 1) (k' := 9) hC 1 2 fl_X1_18 rfl rfl rfl rfl dX1_nearestLack_22 ?_
        refine V_iload_n hC 3 dX1_nearestLack_25 rfl ?_
        obtain ⟨hi, h⟩ := gd_some h
        refine V_iald (g := 1) (k := 9) hC rfl rfl hi dX1_nearestLack_26 ?_
        refine V_ldc hC dX1_nearestLack_27 cl_X1_64 ?_
        refine V_icmp_ge (tgt := 54) hC dX1_nearestLack_29 (by decide) (fun c4 => ?_) (fun c4 => ?_)
        · have h := it_pos c4 h
          refine V_vi h (fun v5 hvv5 h => ?_)
          refine V_iinc (v := v5) (lv' := [(3, .int v5), (0, .ref (ad 1 3)), (1, .ref (ad (r + 2) 1)), (2, .int x2)]) hC 3 dX1_nearestLack_54 rfl hvv5.symm (Nat.le_of_ble_eq_true rfl) rfl ?_
          refine V_goto (tgt := 4) hC dX1_nearestLack_57 (by decide) ?_
          refine V_lv (lv' := [(0, .ref (ad 1 3)), (1, .ref (ad (r + 2) 1)), (2, .int x2), (3, .int v5)]) [1, 2, 3, 0] rfl ?_
          exact ih x2 v5 H h
        · have h := it_neg c4 h
          refine V_iload_n hC 2 dX1_nearestLack_32 rfl ?_
          refine V_iconst (v := -1) hC dX1_nearestLack_33 (by decide) ?_
          refine V_icmp_eq (tgt := 52) hC dX1_nearestLack_34 (by decide) (fun c6 => ?_) (fun c6 => ?_)
          · have h := it_pos c6 h
            refine V_iload_n hC 3 dX1_nearestLack_52 rfl ?_
            refine V_istore_n (lv' := [(2, .int x3), (0, .ref (ad 1 3)), (1, .ref (ad (r + 2) 1)), (3, .int x3)]) hC dX1_nearestLack_53 (Nat.le_of_ble_eq_true rfl) rfl ?_
            refine V_vi h (fun v7 hvv7 h => ?_)
            refine V_iinc (v := v7) (lv' := [(3, .int v7), (2, .int x3), (0, .ref (ad 1 3)), (1, .ref (ad (r + 2) 1))]) hC 3 dX1_nearestLack_54 rfl hvv7.symm (Nat.le_of_ble_eq_true rfl) rfl ?_
            refine V_goto (tgt := 4) hC dX1_nearestLack_57 (by decide) ?_
            refine V_lv (lv' := [(0, .ref (ad 1 3)), (1, .ref (ad (r + 2) 1)), (2, .int x3), (3, .int v7)]) [2, 3, 1, 0] rfl ?_
            exact ih x3 v7 H h
          · have h := it_neg c6 h
            refine V_aload_n hC 0 dX1_nearestLack_37 rfl ?_
            refine V_getR (g := 1) (k := 3) (g' := 1) (k' := 9) hC 1 2 fl_X1_18 rfl rfl rfl rfl dX1_nearestLack_38 ?_
            refine V_iload_n hC 3 dX1_nearestLack_41 rfl ?_
            obtain ⟨hi, h⟩ := gd_some h
            refine V_iald (g := 1) (k := 9) hC rfl rfl hi dX1_nearestLack_42 ?_
            refine V_aload_n hC 0 dX1_nearestLack_43 rfl ?_
            refine V_getR (g := 1) (k := 3) (g' := 1) (k' := 9) hC 1 2 fl_X1_18 rfl rfl rfl rfl dX1_nearestLack_44 ?_
            refine V_iload_n hC 2 dX1_nearestLack_47 rfl ?_
            obtain ⟨hi, h⟩ := gd_some h
            refine V_iald (g := 1) (k := 9) hC rfl rfl hi dX1_nearestLack_48 ?_
            refine V_icmp_ge (tgt := 54) hC dX1_nearestLack_49 (by decide) (fun c8 => ?_) (fun c8 => ?_)
            · have h := it_pos c8 h
              refine V_vi h (fun v9 hvv9 h => ?_)
              refine V_iinc (v := v9) (lv' := [(3, .int v9), (0, .ref (ad 1 3)), (1, .ref (ad (r + 2) 1)), (2, .int x2)]) hC 3 dX1_nearestLack_54 rfl hvv9.symm (Nat.le_of_ble_eq_true rfl) rfl ?_
              refine V_goto (tgt := 4) hC dX1_nearestLack_57 (by decide) ?_
              refine V_lv (lv' := [(0, .ref (ad 1 3)), (1, .ref (ad (r + 2) 1)), (2, .int x2), (3, .int v9)]) [1, 2, 3, 0] rfl ?_
              exact ih x2 v9 H h
            · have h := it_neg c8 h
              refine V_iload_n hC 3 dX1_nearestLack_52 rfl ?_
              refine V_istore_n (lv' := [(2, .int x3), (0, .ref (ad 1 3)), (1, .ref (ad (r + 2) 1)), (3, .int x3)]) hC dX1_nearestLack_53 (Nat.le_of_ble_eq_true rfl) rfl ?_
              refine V_vi h (fun v10 hvv10 h => ?_)
              refine V_iinc (v := v10) (lv' := [(3, .int v10), (2, .int x3), (0, .ref (ad 1 3)), (1, .ref (ad (r + 2) 1))]) hC 3 dX1_nearestLack_54 rfl hvv10.symm (Nat.le_of_ble_eq_true rfl) rfl ?_
              refine V_goto (tgt := 4) hC dX1_nearestLack_57 (by decide) ?_
              refine V_lv (lv' := [(0, .ref (ad 1 3)), (1, .ref (ad (r + 2) 1)), (2, .int x3), (3, .int v10)]) [2, 3, 1, 0] rfl ?_
              exact ih x3 v10 H h
def f_X1_nearestLack (r : Nat) (H : Hp) : Option (Int32 × Hp) := L_X1_nearestLack_4 r (fun (z11 : Int32) (H12 : Hp) => some (z11, H12)) FU (-1) 0 H
set_option maxRecDepth 100000 in
set_option maxHeartbeats 4000000 in
theorem s_X1_nearestLack {p : Program} {l : Launch} {e : Env} {s : State} {m : MethodId} {args : Array Value} {below : List Frame} {meth : Method} {c : Code} {A : Nat → Prop} {D : va_G} {K4 : kQ} {ad : Nat → Nat → Nat} {nr : Nat} {r : Nat} {H : Hp} {res : Int32 × Hp} (hC : Cx p s m args c A s.heap D K4 4 RX1 cX1_nearestLack) (hret : meth.sig.returnType = (some .int) ∧ meth.locks = false) (hr_r : r < nr) (h : f_X1_nearestLack r H = some res) : V p l e ({ frames := 0, cells := 0, slots := 0, locals := 0 }) s m args below meth c A s.heap (QI below args s A D K4 ad nr res) D K4 ad nr 4 0 [(0, .ref (ad 1 3)), (1, .ref (ad (r + 2) 1))] [] H := by
  unfold f_X1_nearestLack at h
  refine V_iconst (v := -1) hC dX1_nearestLack_0 (by decide) ?_
  refine V_istore_n (lv' := [(2, .int (-1)), (0, .ref (ad 1 3)), (1, .ref (ad (r + 2) 1))]) hC dX1_nearestLack_1 (Nat.le_of_ble_eq_true rfl) rfl ?_
  refine V_iconst (v := 0) hC dX1_nearestLack_2 (by decide) ?_
  refine V_istore_n (lv' := [(3, .int 0), (2, .int (-1)), (0, .ref (ad 1 3)), (1, .ref (ad (r + 2) 1))]) hC dX1_nearestLack_3 (Nat.le_of_ble_eq_true rfl) rfl ?_
  refine V_lv (lv' := [(0, .ref (ad 1 3)), (1, .ref (ad (r + 2) 1)), (2, .int (-1)), (3, .int 0)]) [2, 3, 1, 0] rfl ?_
  refine sL_X1_nearestLack_4 hC hret hr_r (fun z11 H12 h => ?_) _ (-1) 0 H h
  refine V_iload_n hC 0 dX1_nearestLack_60 rfl ?_
  exact V_iret hC hret dX1_nearestLack_61 h
theorem c_X1_nearestLack (l : Launch) {nr : Nat} {r : Nat} (hr_r : r < nr) {H : Hp} {x : Int32} {H' : Hp} (h : f_X1_nearestLack r H = some (x, H')) : CI l nr yX1_nearestLack cX1_nearestLack 4 (some .int) 0 0 (fun ad => [.ref (ad 1 3), .ref (ad (r + 2) 1)]) H x H' := by
  intro D K4 ad sz
  refine Met.ofV (by decide) (Nat.le_of_ble_eq_true rfl) ?_
  intro p e s m args below meth c hC hret hsz
  subst hsz
  exact s_X1_nearestLack hC hret hr_r h
theorem dX1_roomForMore_0 : decode cX1_roomForMore 0 = .ok (.aload_n 0, 1) := by decide +kernel
theorem dX1_roomForMore_1 : decode cX1_roomForMore 1 = .ok (.getfield 9, 3) := by decide +kernel
theorem dX1_roomForMore_4 : decode cX1_roomForMore 4 = .ok (.iload_n 1, 1) := by decide +kernel
theorem dX1_roomForMore_5 : decode cX1_roomForMore 5 = .ok (.iaload, 1) := by decide +kernel
theorem dX1_roomForMore_6 : decode cX1_roomForMore 6 = .ok (.iload_n 2, 1) := by decide +kernel
theorem dX1_roomForMore_7 : decode cX1_roomForMore 7 = .ok (.if_icmp .ge 14, 3) := by decide +kernel
theorem dX1_roomForMore_10 : decode cX1_roomForMore 10 = .ok (.iload_n 2, 1) := by decide +kernel
theorem dX1_roomForMore_11 : decode cX1_roomForMore 11 = .ok (.aload_n 0, 1) := by decide +kernel
theorem dX1_roomForMore_12 : decode cX1_roomForMore 12 = .ok (.getfield 9, 3) := by decide +kernel
theorem dX1_roomForMore_15 : decode cX1_roomForMore 15 = .ok (.iload_n 1, 1) := by decide +kernel
theorem dX1_roomForMore_16 : decode cX1_roomForMore 16 = .ok (.iaload, 1) := by decide +kernel
theorem dX1_roomForMore_17 : decode cX1_roomForMore 17 = .ok (.isub, 1) := by decide +kernel
theorem dX1_roomForMore_18 : decode cX1_roomForMore 18 = .ok (.goto 5, 3) := by decide +kernel
theorem dX1_roomForMore_21 : decode cX1_roomForMore 21 = .ok (.ldc 64, 2) := by decide +kernel
theorem dX1_roomForMore_23 : decode cX1_roomForMore 23 = .ok (.ireturn, 1) := by decide +kernel
def f_X1_roomForMore (a1 : Int32) (a2 : Int32) (H : Hp) : Option (Int32 × Hp) := gd a1 61 (if a2 ≤ (gI H 1 7 (Int32.toNatClampNeg a1)) then some (1000000000, H) else gd a1 61 (some ((a2 - (gI H 1 7 (Int32.toNatClampNeg a1))), H)))
set_option maxRecDepth 100000 in
set_option maxHeartbeats 4000000 in
theorem s_X1_roomForMore {p : Program} {l : Launch} {e : Env} {s : State} {m : MethodId} {args : Array Value} {below : List Frame} {meth : Method} {c : Code} {A : Nat → Prop} {D : va_G} {K4 : kQ} {ad : Nat → Nat → Nat} {nr : Nat} {a1 : Int32} {a2 : Int32} {H : Hp} {res : Int32 × Hp} (hC : Cx p s m args c A s.heap D K4 3 RX1 cX1_roomForMore) (hret : meth.sig.returnType = (some .int) ∧ meth.locks = false) (h : f_X1_roomForMore a1 a2 H = some res) : V p l e ({ frames := 0, cells := 0, slots := 0, locals := 0 }) s m args below meth c A s.heap (QI below args s A D K4 ad nr res) D K4 ad nr 3 0 [(0, .ref (ad 1 3)), (1, .int a1), (2, .int a2)] [] H := by
  unfold f_X1_roomForMore at h
  refine V_aload_n hC 0 dX1_roomForMore_0 rfl ?_
  refine V_getR (g := 1) (k := 3) (g' := 1) (k' := 7) hC 1 0 fl_X1_9 rfl rfl rfl rfl dX1_roomForMore_1 ?_
  refine V_iload_n hC 1 dX1_roomForMore_4 rfl ?_
  obtain ⟨hi, h⟩ := gd_some h
  refine V_iald (g := 1) (k := 7) hC rfl rfl hi dX1_roomForMore_5 ?_
  refine V_iload_n hC 2 dX1_roomForMore_6 rfl ?_
  refine V_icmp_ge (tgt := 21) hC dX1_roomForMore_7 (by decide) (fun c1 => ?_) (fun c1 => ?_)
  · have h := it_pos c1 h
    refine V_ldc hC dX1_roomForMore_21 cl_X1_64 ?_
    exact V_iret hC hret dX1_roomForMore_23 h
  · have h := it_neg c1 h
    refine V_iload_n hC 2 dX1_roomForMore_10 rfl ?_
    refine V_aload_n hC 0 dX1_roomForMore_11 rfl ?_
    refine V_getR (g := 1) (k := 3) (g' := 1) (k' := 7) hC 1 0 fl_X1_9 rfl rfl rfl rfl dX1_roomForMore_12 ?_
    refine V_iload_n hC 1 dX1_roomForMore_15 rfl ?_
    obtain ⟨hi, h⟩ := gd_some h
    refine V_iald (g := 1) (k := 7) hC rfl rfl hi dX1_roomForMore_16 ?_
    refine V_isub hC dX1_roomForMore_17 ?_
    refine V_goto (tgt := 23) hC dX1_roomForMore_18 (by decide) ?_
    exact V_iret hC hret dX1_roomForMore_23 h
theorem c_X1_roomForMore (l : Launch) {nr : Nat} {a1 : Int32} {a2 : Int32} {H : Hp} {x : Int32} {H' : Hp} (h : f_X1_roomForMore a1 a2 H = some (x, H')) : CI l nr yX1_roomForMore cX1_roomForMore 3 (some .int) 0 0 (fun ad => [.ref (ad 1 3), .int a1, .int a2]) H x H' := by
  intro D K4 ad sz
  refine Met.ofV (by decide) (Nat.le_of_ble_eq_true rfl) ?_
  intro p e s m args below meth c hC hret hsz
  subst hsz
  exact s_X1_roomForMore hC hret h
theorem dX1_roomForLess_0 : decode cX1_roomForLess 0 = .ok (.iload_n 2, 1) := by decide +kernel
theorem dX1_roomForLess_1 : decode cX1_roomForLess 1 = .ok (.iconst (-1), 1) := by decide +kernel
theorem dX1_roomForLess_2 : decode cX1_roomForLess 2 = .ok (.if_icmp .eq 24, 3) := by decide +kernel
theorem dX1_roomForLess_5 : decode cX1_roomForLess 5 = .ok (.aload_n 0, 1) := by decide +kernel
theorem dX1_roomForLess_6 : decode cX1_roomForLess 6 = .ok (.getfield 9, 3) := by decide +kernel
theorem dX1_roomForLess_9 : decode cX1_roomForLess 9 = .ok (.iload_n 1, 1) := by decide +kernel
theorem dX1_roomForLess_10 : decode cX1_roomForLess 10 = .ok (.iaload, 1) := by decide +kernel
theorem dX1_roomForLess_11 : decode cX1_roomForLess 11 = .ok (.iload_n 2, 1) := by decide +kernel
theorem dX1_roomForLess_12 : decode cX1_roomForLess 12 = .ok (.if_icmp .le 14, 3) := by decide +kernel
theorem dX1_roomForLess_15 : decode cX1_roomForLess 15 = .ok (.aload_n 0, 1) := by decide +kernel
theorem dX1_roomForLess_16 : decode cX1_roomForLess 16 = .ok (.getfield 9, 3) := by decide +kernel
theorem dX1_roomForLess_19 : decode cX1_roomForLess 19 = .ok (.iload_n 1, 1) := by decide +kernel
theorem dX1_roomForLess_20 : decode cX1_roomForLess 20 = .ok (.iaload, 1) := by decide +kernel
theorem dX1_roomForLess_21 : decode cX1_roomForLess 21 = .ok (.iload_n 2, 1) := by decide +kernel
theorem dX1_roomForLess_22 : decode cX1_roomForLess 22 = .ok (.isub, 1) := by decide +kernel
theorem dX1_roomForLess_23 : decode cX1_roomForLess 23 = .ok (.goto 9, 3) := by decide +kernel
theorem dX1_roomForLess_26 : decode cX1_roomForLess 26 = .ok (.aload_n 0, 1) := by decide +kernel
theorem dX1_roomForLess_27 : decode cX1_roomForLess 27 = .ok (.getfield 9, 3) := by decide +kernel
theorem dX1_roomForLess_30 : decode cX1_roomForLess 30 = .ok (.iload_n 1, 1) := by decide +kernel
theorem dX1_roomForLess_31 : decode cX1_roomForLess 31 = .ok (.iaload, 1) := by decide +kernel
theorem dX1_roomForLess_32 : decode cX1_roomForLess 32 = .ok (.ireturn, 1) := by decide +kernel
def f_X1_roomForLess (a1 : Int32) (a2 : Int32) (H : Hp) : Option (Int32 × Hp) := if a2 = (-1) then gd a1 61 (some ((gI H 1 7 (Int32.toNatClampNeg a1)), H)) else gd a1 61 (if (gI H 1 7 (Int32.toNatClampNeg a1)) ≤ a2 then gd a1 61 (some ((gI H 1 7 (Int32.toNatClampNeg a1)), H)) else gd a1 61 (some (((gI H 1 7 (Int32.toNatClampNeg a1)) - a2), H)))
set_option maxRecDepth 100000 in
set_option maxHeartbeats 4000000 in
theorem s_X1_roomForLess {p : Program} {l : Launch} {e : Env} {s : State} {m : MethodId} {args : Array Value} {below : List Frame} {meth : Method} {c : Code} {A : Nat → Prop} {D : va_G} {K4 : kQ} {ad : Nat → Nat → Nat} {nr : Nat} {a1 : Int32} {a2 : Int32} {H : Hp} {res : Int32 × Hp} (hC : Cx p s m args c A s.heap D K4 3 RX1 cX1_roomForLess) (hret : meth.sig.returnType = (some .int) ∧ meth.locks = false) (h : f_X1_roomForLess a1 a2 H = some res) : V p l e ({ frames := 0, cells := 0, slots := 0, locals := 0 }) s m args below meth c A s.heap (QI below args s A D K4 ad nr res) D K4 ad nr 3 0 [(0, .ref (ad 1 3)), (1, .int a1), (2, .int a2)] [] H := by
  unfold f_X1_roomForLess at h
  refine V_iload_n hC 2 dX1_roomForLess_0 rfl ?_
  refine V_iconst (v := -1) hC dX1_roomForLess_1 (by decide) ?_
  refine V_icmp_eq (tgt := 26) hC dX1_roomForLess_2 (by decide) (fun c1 => ?_) (fun c1 => ?_)
  · have h := it_pos c1 h
    refine V_aload_n hC 0 dX1_roomForLess_26 rfl ?_
    refine V_getR (g := 1) (k := 3) (g' := 1) (k' := 7) hC 1 0 fl_X1_9 rfl rfl rfl rfl dX1_roomForLess_27 ?_
    refine V_iload_n hC 1 dX1_roomForLess_30 rfl ?_
    obtain ⟨hi, h⟩ := gd_some h
    refine V_iald (g := 1) (k := 7) hC rfl rfl hi dX1_roomForLess_31 ?_
    exact V_iret hC hret dX1_roomForLess_32 h
  · have h := it_neg c1 h
    refine V_aload_n hC 0 dX1_roomForLess_5 rfl ?_
    refine V_getR (g := 1) (k := 3) (g' := 1) (k' := 7) hC 1 0 fl_X1_9 rfl rfl rfl rfl dX1_roomForLess_6 ?_
    refine V_iload_n hC 1 dX1_roomForLess_9 rfl ?_
    obtain ⟨hi, h⟩ := gd_some h
    refine V_iald (g := 1) (k := 7) hC rfl rfl hi dX1_roomForLess_10 ?_
    refine V_iload_n hC 2 dX1_roomForLess_11 rfl ?_
    refine V_icmp_le (tgt := 26) hC dX1_roomForLess_12 (by decide) (fun c2 => ?_) (fun c2 => ?_)
    · have h := it_pos c2 h
      refine V_aload_n hC 0 dX1_roomForLess_26 rfl ?_
      refine V_getR (g := 1) (k := 3) (g' := 1) (k' := 7) hC 1 0 fl_X1_9 rfl rfl rfl rfl dX1_roomForLess_27 ?_
      refine V_iload_n hC 1 dX1_roomForLess_30 rfl ?_
      obtain ⟨hi, h⟩ := gd_some h
      refine V_iald (g := 1) (k := 7) hC rfl rfl hi dX1_roomForLess_31 ?_
      exact V_iret hC hret dX1_roomForLess_32 h
    · have h := it_neg c2 h
      refine V_aload_n hC 0 dX1_roomForLess_15 rfl ?_
      refine V_getR (g := 1) (k := 3) (g' := 1) (k' := 7) hC 1 0 fl_X1_9 rfl rfl rfl rfl dX1_roomForLess_16 ?_
      refine V_iload_n hC 1 dX1_roomForLess_19 rfl ?_
      obtain ⟨hi, h⟩ := gd_some h
      refine V_iald (g := 1) (k := 7) hC rfl rfl hi dX1_roomForLess_20 ?_
      refine V_iload_n hC 2 dX1_roomForLess_21 rfl ?_
      refine V_isub hC dX1_roomForLess_22 ?_
      refine V_goto (tgt := 32) hC dX1_roomForLess_23 (by decide) ?_
      exact V_iret hC hret dX1_roomForLess_32 h
theorem c_X1_roomForLess (l : Launch) {nr : Nat} {a1 : Int32} {a2 : Int32} {H : Hp} {x : Int32} {H' : Hp} (h : f_X1_roomForLess a1 a2 H = some (x, H')) : CI l nr yX1_roomForLess cX1_roomForLess 3 (some .int) 0 0 (fun ad => [.ref (ad 1 3), .int a1, .int a2]) H x H' := by
  intro D K4 ad sz
  refine Met.ofV (by decide) (Nat.le_of_ble_eq_true rfl) ?_
  intro p e s m args below meth c hC hret hsz
  subst hsz
  exact s_X1_roomForLess hC hret h
theorem dX1_carryTo_0 : decode cX1_carryTo 0 = .ok (.aload_n 0, 1) := by decide +kernel
theorem dX1_carryTo_1 : decode cX1_carryTo 1 = .ok (.getfield 15, 3) := by decide +kernel
theorem dX1_carryTo_4 : decode cX1_carryTo 4 = .ok (.iload_n 1, 1) := by decide +kernel
theorem dX1_carryTo_5 : decode cX1_carryTo 5 = .ok (.iaload, 1) := by decide +kernel
theorem dX1_carryTo_6 : decode cX1_carryTo 6 = .ok (.ineg, 1) := by decide +kernel
theorem dX1_carryTo_7 : decode cX1_carryTo 7 = .ok (.istore 4, 2) := by decide +kernel
theorem dX1_carryTo_9 : decode cX1_carryTo 9 = .ok (.iload_n 1, 1) := by decide +kernel
theorem dX1_carryTo_10 : decode cX1_carryTo 10 = .ok (.istore 5, 2) := by decide +kernel
theorem dX1_carryTo_12 : decode cX1_carryTo 12 = .ok (.iconst 0, 1) := by decide +kernel
theorem dX1_carryTo_13 : decode cX1_carryTo 13 = .ok (.istore 6, 2) := by decide +kernel
theorem dX1_carryTo_15 : decode cX1_carryTo 15 = .ok (.iload 6, 2) := by decide +kernel
theorem dX1_carryTo_17 : decode cX1_carryTo 17 = .ok (.aload_n 2, 1) := by decide +kernel
theorem dX1_carryTo_18 : decode cX1_carryTo 18 = .ok (.getfield 52, 3) := by decide +kernel
theorem dX1_carryTo_21 : decode cX1_carryTo 21 = .ok (.if_icmp .gt 122, 3) := by decide +kernel
theorem dX1_carryTo_24 : decode cX1_carryTo 24 = .ok (.aload_n 0, 1) := by decide +kernel
theorem dX1_carryTo_25 : decode cX1_carryTo 25 = .ok (.getfield 21, 3) := by decide +kernel
theorem dX1_carryTo_28 : decode cX1_carryTo 28 = .ok (.iload 5, 2) := by decide +kernel
theorem dX1_carryTo_30 : decode cX1_carryTo 30 = .ok (.iaload, 1) := by decide +kernel
theorem dX1_carryTo_31 : decode cX1_carryTo 31 = .ok (.iconst (-1), 1) := by decide +kernel
theorem dX1_carryTo_32 : decode cX1_carryTo 32 = .ok (.if_icmp .eq 111, 3) := by decide +kernel
theorem dX1_carryTo_35 : decode cX1_carryTo 35 = .ok (.aload_n 0, 1) := by decide +kernel
theorem dX1_carryTo_36 : decode cX1_carryTo 36 = .ok (.getfield 21, 3) := by decide +kernel
theorem dX1_carryTo_39 : decode cX1_carryTo 39 = .ok (.iload 5, 2) := by decide +kernel
theorem dX1_carryTo_41 : decode cX1_carryTo 41 = .ok (.iaload, 1) := by decide +kernel
theorem dX1_carryTo_42 : decode cX1_carryTo 42 = .ok (.istore 7, 2) := by decide +kernel
theorem dX1_carryTo_44 : decode cX1_carryTo 44 = .ok (.iload 7, 2) := by decide +kernel
theorem dX1_carryTo_46 : decode cX1_carryTo 46 = .ok (.aload_n 2, 1) := by decide +kernel
theorem dX1_carryTo_47 : decode cX1_carryTo 47 = .ok (.getfield 40, 3) := by decide +kernel
theorem dX1_carryTo_50 : decode cX1_carryTo 50 = .ok (.if_icmp .ge 10, 3) := by decide +kernel
theorem dX1_carryTo_53 : decode cX1_carryTo 53 = .ok (.aload_n 3, 1) := by decide +kernel
theorem dX1_carryTo_54 : decode cX1_carryTo 54 = .ok (.iload 7, 2) := by decide +kernel
theorem dX1_carryTo_56 : decode cX1_carryTo 56 = .ok (.iaload, 1) := by decide +kernel
theorem dX1_carryTo_57 : decode cX1_carryTo 57 = .ok (.goto 4, 3) := by decide +kernel
theorem dX1_carryTo_60 : decode cX1_carryTo 60 = .ok (.iconst (-1), 1) := by decide +kernel
theorem dX1_carryTo_61 : decode cX1_carryTo 61 = .ok (.istore 8, 2) := by decide +kernel
theorem dX1_carryTo_63 : decode cX1_carryTo 63 = .ok (.aload_n 2, 1) := by decide +kernel
theorem dX1_carryTo_64 : decode cX1_carryTo 64 = .ok (.getfield 61, 3) := by decide +kernel
theorem dX1_carryTo_67 : decode cX1_carryTo 67 = .ok (.iload 7, 2) := by decide +kernel
theorem dX1_carryTo_69 : decode cX1_carryTo 69 = .ok (.iaload, 1) := by decide +kernel
theorem dX1_carryTo_70 : decode cX1_carryTo 70 = .ok (.iload 5, 2) := by decide +kernel
theorem dX1_carryTo_72 : decode cX1_carryTo 72 = .ok (.if_icmp .ne 7, 3) := by decide +kernel
theorem dX1_carryTo_75 : decode cX1_carryTo 75 = .ok (.iconst 1, 1) := by decide +kernel
theorem dX1_carryTo_76 : decode cX1_carryTo 76 = .ok (.goto 4, 3) := by decide +kernel
theorem dX1_carryTo_79 : decode cX1_carryTo 79 = .ok (.iconst 0, 1) := by decide +kernel
theorem dX1_carryTo_80 : decode cX1_carryTo 80 = .ok (.istore 9, 2) := by decide +kernel
theorem dX1_carryTo_82 : decode cX1_carryTo 82 = .ok (.iload 4, 2) := by decide +kernel
theorem dX1_carryTo_84 : decode cX1_carryTo 84 = .ok (.iload 9, 2) := by decide +kernel
theorem dX1_carryTo_86 : decode cX1_carryTo 86 = .ok (.ifCond .eq 14, 3) := by decide +kernel
theorem dX1_carryTo_89 : decode cX1_carryTo 89 = .ok (.aload_n 0, 1) := by decide +kernel
theorem dX1_carryTo_90 : decode cX1_carryTo 90 = .ok (.iload 7, 2) := by decide +kernel
theorem dX1_carryTo_92 : decode cX1_carryTo 92 = .ok (.iload 8, 2) := by decide +kernel
theorem dX1_carryTo_94 : decode cX1_carryTo 94 = .ok (.invokevirtual 76, 3) := by decide +kernel
theorem dX1_carryTo_97 : decode cX1_carryTo 97 = .ok (.goto 11, 3) := by decide +kernel
theorem dX1_carryTo_100 : decode cX1_carryTo 100 = .ok (.aload_n 0, 1) := by decide +kernel
theorem dX1_carryTo_101 : decode cX1_carryTo 101 = .ok (.iload 7, 2) := by decide +kernel
theorem dX1_carryTo_103 : decode cX1_carryTo 103 = .ok (.iload 8, 2) := by decide +kernel
theorem dX1_carryTo_105 : decode cX1_carryTo 105 = .ok (.invokevirtual 79, 3) := by decide +kernel
theorem dX1_carryTo_108 : decode cX1_carryTo 108 = .ok (.invokestatic 82, 3) := by decide +kernel
theorem dX1_carryTo_111 : decode cX1_carryTo 111 = .ok (.istore 4, 2) := by decide +kernel
theorem dX1_carryTo_113 : decode cX1_carryTo 113 = .ok (.iload 9, 2) := by decide +kernel
theorem dX1_carryTo_115 : decode cX1_carryTo 115 = .ok (.ifCond .eq 13, 3) := by decide +kernel
theorem dX1_carryTo_118 : decode cX1_carryTo 118 = .ok (.aload_n 2, 1) := by decide +kernel
theorem dX1_carryTo_119 : decode cX1_carryTo 119 = .ok (.getfield 58, 3) := by decide +kernel
theorem dX1_carryTo_122 : decode cX1_carryTo 122 = .ok (.iload 7, 2) := by decide +kernel
theorem dX1_carryTo_124 : decode cX1_carryTo 124 = .ok (.iaload, 1) := by decide +kernel
theorem dX1_carryTo_125 : decode cX1_carryTo 125 = .ok (.goto 10, 3) := by decide +kernel
theorem dX1_carryTo_128 : decode cX1_carryTo 128 = .ok (.aload_n 2, 1) := by decide +kernel
theorem dX1_carryTo_129 : decode cX1_carryTo 129 = .ok (.getfield 61, 3) := by decide +kernel
theorem dX1_carryTo_132 : decode cX1_carryTo 132 = .ok (.iload 7, 2) := by decide +kernel
theorem dX1_carryTo_134 : decode cX1_carryTo 134 = .ok (.iaload, 1) := by decide +kernel
theorem dX1_carryTo_135 : decode cX1_carryTo 135 = .ok (.istore 5, 2) := by decide +kernel
theorem dX1_carryTo_137 : decode cX1_carryTo 137 = .ok (.iinc 6 1, 3) := by decide +kernel
theorem dX1_carryTo_140 : decode cX1_carryTo 140 = .ok (.goto (-125), 3) := by decide +kernel
theorem dX1_carryTo_143 : decode cX1_carryTo 143 = .ok (.iload 4, 2) := by decide +kernel
theorem dX1_carryTo_145 : decode cX1_carryTo 145 = .ok (.aload_n 0, 1) := by decide +kernel
theorem dX1_carryTo_146 : decode cX1_carryTo 146 = .ok (.getfield 15, 3) := by decide +kernel
theorem dX1_carryTo_149 : decode cX1_carryTo 149 = .ok (.iload 5, 2) := by decide +kernel
theorem dX1_carryTo_151 : decode cX1_carryTo 151 = .ok (.iaload, 1) := by decide +kernel
theorem dX1_carryTo_152 : decode cX1_carryTo 152 = .ok (.invokestatic 82, 3) := by decide +kernel
theorem dX1_carryTo_155 : decode cX1_carryTo 155 = .ok (.istore 4, 2) := by decide +kernel
theorem dX1_carryTo_157 : decode cX1_carryTo 157 = .ok (.aload_n 0, 1) := by decide +kernel
theorem dX1_carryTo_158 : decode cX1_carryTo 158 = .ok (.getfield 15, 3) := by decide +kernel
theorem dX1_carryTo_161 : decode cX1_carryTo 161 = .ok (.iload 5, 2) := by decide +kernel
theorem dX1_carryTo_163 : decode cX1_carryTo 163 = .ok (.dup2, 1) := by decide +kernel
theorem dX1_carryTo_164 : decode cX1_carryTo 164 = .ok (.iaload, 1) := by decide +kernel
theorem dX1_carryTo_165 : decode cX1_carryTo 165 = .ok (.iload 4, 2) := by decide +kernel
theorem dX1_carryTo_167 : decode cX1_carryTo 167 = .ok (.isub, 1) := by decide +kernel
theorem dX1_carryTo_168 : decode cX1_carryTo 168 = .ok (.iastore, 1) := by decide +kernel
theorem dX1_carryTo_169 : decode cX1_carryTo 169 = .ok (.aload_n 0, 1) := by decide +kernel
theorem dX1_carryTo_170 : decode cX1_carryTo 170 = .ok (.getfield 15, 3) := by decide +kernel
theorem dX1_carryTo_173 : decode cX1_carryTo 173 = .ok (.iload_n 1, 1) := by decide +kernel
theorem dX1_carryTo_174 : decode cX1_carryTo 174 = .ok (.dup2, 1) := by decide +kernel
theorem dX1_carryTo_175 : decode cX1_carryTo 175 = .ok (.iaload, 1) := by decide +kernel
theorem dX1_carryTo_176 : decode cX1_carryTo 176 = .ok (.iload 4, 2) := by decide +kernel
theorem dX1_carryTo_178 : decode cX1_carryTo 178 = .ok (.iadd, 1) := by decide +kernel
theorem dX1_carryTo_179 : decode cX1_carryTo 179 = .ok (.iastore, 1) := by decide +kernel
theorem dX1_carryTo_180 : decode cX1_carryTo 180 = .ok (.iload_n 1, 1) := by decide +kernel
theorem dX1_carryTo_181 : decode cX1_carryTo 181 = .ok (.istore 5, 2) := by decide +kernel
theorem dX1_carryTo_183 : decode cX1_carryTo 183 = .ok (.iconst 0, 1) := by decide +kernel
theorem dX1_carryTo_184 : decode cX1_carryTo 184 = .ok (.istore 6, 2) := by decide +kernel
theorem dX1_carryTo_186 : decode cX1_carryTo 186 = .ok (.iload 6, 2) := by decide +kernel
theorem dX1_carryTo_188 : decode cX1_carryTo 188 = .ok (.aload_n 2, 1) := by decide +kernel
theorem dX1_carryTo_189 : decode cX1_carryTo 189 = .ok (.getfield 52, 3) := by decide +kernel
theorem dX1_carryTo_192 : decode cX1_carryTo 192 = .ok (.if_icmp .gt 95, 3) := by decide +kernel
theorem dX1_carryTo_195 : decode cX1_carryTo 195 = .ok (.aload_n 0, 1) := by decide +kernel
theorem dX1_carryTo_196 : decode cX1_carryTo 196 = .ok (.getfield 21, 3) := by decide +kernel
theorem dX1_carryTo_199 : decode cX1_carryTo 199 = .ok (.iload 5, 2) := by decide +kernel
theorem dX1_carryTo_201 : decode cX1_carryTo 201 = .ok (.iaload, 1) := by decide +kernel
theorem dX1_carryTo_202 : decode cX1_carryTo 202 = .ok (.iconst (-1), 1) := by decide +kernel
theorem dX1_carryTo_203 : decode cX1_carryTo 203 = .ok (.if_icmp .eq 84, 3) := by decide +kernel
theorem dX1_carryTo_206 : decode cX1_carryTo 206 = .ok (.aload_n 0, 1) := by decide +kernel
theorem dX1_carryTo_207 : decode cX1_carryTo 207 = .ok (.getfield 21, 3) := by decide +kernel
theorem dX1_carryTo_210 : decode cX1_carryTo 210 = .ok (.iload 5, 2) := by decide +kernel
theorem dX1_carryTo_212 : decode cX1_carryTo 212 = .ok (.iaload, 1) := by decide +kernel
theorem dX1_carryTo_213 : decode cX1_carryTo 213 = .ok (.istore 7, 2) := by decide +kernel
theorem dX1_carryTo_215 : decode cX1_carryTo 215 = .ok (.aload_n 2, 1) := by decide +kernel
theorem dX1_carryTo_216 : decode cX1_carryTo 216 = .ok (.getfield 61, 3) := by decide +kernel
theorem dX1_carryTo_219 : decode cX1_carryTo 219 = .ok (.iload 7, 2) := by decide +kernel
theorem dX1_carryTo_221 : decode cX1_carryTo 221 = .ok (.iaload, 1) := by decide +kernel
theorem dX1_carryTo_222 : decode cX1_carryTo 222 = .ok (.iload 5, 2) := by decide +kernel
theorem dX1_carryTo_224 : decode cX1_carryTo 224 = .ok (.if_icmp .ne 7, 3) := by decide +kernel
theorem dX1_carryTo_227 : decode cX1_carryTo 227 = .ok (.iconst 1, 1) := by decide +kernel
theorem dX1_carryTo_228 : decode cX1_carryTo 228 = .ok (.goto 4, 3) := by decide +kernel
theorem dX1_carryTo_231 : decode cX1_carryTo 231 = .ok (.iconst 0, 1) := by decide +kernel
theorem dX1_carryTo_232 : decode cX1_carryTo 232 = .ok (.istore 8, 2) := by decide +kernel
theorem dX1_carryTo_234 : decode cX1_carryTo 234 = .ok (.aload_n 0, 1) := by decide +kernel
theorem dX1_carryTo_235 : decode cX1_carryTo 235 = .ok (.getfield 9, 3) := by decide +kernel
theorem dX1_carryTo_238 : decode cX1_carryTo 238 = .ok (.iload 7, 2) := by decide +kernel
theorem dX1_carryTo_240 : decode cX1_carryTo 240 = .ok (.dup2, 1) := by decide +kernel
theorem dX1_carryTo_241 : decode cX1_carryTo 241 = .ok (.iaload, 1) := by decide +kernel
theorem dX1_carryTo_242 : decode cX1_carryTo 242 = .ok (.iload 8, 2) := by decide +kernel
theorem dX1_carryTo_244 : decode cX1_carryTo 244 = .ok (.ifCond .eq 8, 3) := by decide +kernel
theorem dX1_carryTo_247 : decode cX1_carryTo 247 = .ok (.iload 4, 2) := by decide +kernel
theorem dX1_carryTo_249 : decode cX1_carryTo 249 = .ok (.goto 6, 3) := by decide +kernel
theorem dX1_carryTo_252 : decode cX1_carryTo 252 = .ok (.iload 4, 2) := by decide +kernel
theorem dX1_carryTo_254 : decode cX1_carryTo 254 = .ok (.ineg, 1) := by decide +kernel
theorem dX1_carryTo_255 : decode cX1_carryTo 255 = .ok (.iadd, 1) := by decide +kernel
theorem dX1_carryTo_256 : decode cX1_carryTo 256 = .ok (.iastore, 1) := by decide +kernel
theorem dX1_carryTo_257 : decode cX1_carryTo 257 = .ok (.iload 8, 2) := by decide +kernel
theorem dX1_carryTo_259 : decode cX1_carryTo 259 = .ok (.ifCond .eq 13, 3) := by decide +kernel
theorem dX1_carryTo_262 : decode cX1_carryTo 262 = .ok (.aload_n 2, 1) := by decide +kernel
theorem dX1_carryTo_263 : decode cX1_carryTo 263 = .ok (.getfield 58, 3) := by decide +kernel
theorem dX1_carryTo_266 : decode cX1_carryTo 266 = .ok (.iload 7, 2) := by decide +kernel
theorem dX1_carryTo_268 : decode cX1_carryTo 268 = .ok (.iaload, 1) := by decide +kernel
theorem dX1_carryTo_269 : decode cX1_carryTo 269 = .ok (.goto 10, 3) := by decide +kernel
theorem dX1_carryTo_272 : decode cX1_carryTo 272 = .ok (.aload_n 2, 1) := by decide +kernel
theorem dX1_carryTo_273 : decode cX1_carryTo 273 = .ok (.getfield 61, 3) := by decide +kernel
theorem dX1_carryTo_276 : decode cX1_carryTo 276 = .ok (.iload 7, 2) := by decide +kernel
theorem dX1_carryTo_278 : decode cX1_carryTo 278 = .ok (.iaload, 1) := by decide +kernel
theorem dX1_carryTo_279 : decode cX1_carryTo 279 = .ok (.istore 5, 2) := by decide +kernel
theorem dX1_carryTo_281 : decode cX1_carryTo 281 = .ok (.iinc 6 1, 3) := by decide +kernel
theorem dX1_carryTo_284 : decode cX1_carryTo 284 = .ok (.goto (-98), 3) := by decide +kernel
theorem dX1_carryTo_287 : decode cX1_carryTo 287 = .ok (.return_, 1) := by decide +kernel
def L_X1_carryTo_15 (r : Nat) (b1 : Int32) (k : Int32 → Int32 → Hp → Option (Unit × Hp)) : Nat → Int32 → Int32 → Int32 → Hp → Option (Unit × Hp)
  | 0, _, _, _, _ => none
  | n + 1, x4, x5, x6, H => if (gI H (r + 2) 1 10) < x6 then k x4 x5 H else gd x5 21 (if (gI H 1 10 (Int32.toNatClampNeg x5)) = (-1) then k x4 x5 H else gd x5 21 (vl ((gI H 1 10 (Int32.toNatClampNeg x5))) (fun (v4 : Int32) => jn (fun (y6 : Int32) (H7 : Hp) => gd v4 61 (jn (fun (y9 : Int32) (H10 : Hp) => jn (fun (y12 : Int32) (H13 : Hp) => vl ((if y12 < x4 then y12 else x4)) (fun (v14 : Int32) => if y9 = 0 then gd v4 61 (vl ((gI H13 (r + 2) 14 (Int32.toNatClampNeg v4))) (fun (v16 : Int32) => vl (x6 + (1 : Int32)) (fun (v17 : Int32) => L_X1_carryTo_15 r b1 k n v14 v16 v17 H13))) else gd v4 61 (vl ((gI H13 (r + 2) 13 (Int32.toNatClampNeg v4))) (fun (v18 : Int32) => vl (x6 + (1 : Int32)) (fun (v19 : Int32) => L_X1_carryTo_15 r b1 k n v14 v18 v19 H13))))) (fun j11 => if y9 = 0 then bnd (f_X1_roomForLess v4 y6 H10) (fun w22 H21 => j11 w22 H21) else bnd (f_X1_roomForMore v4 y6 H10) (fun w24 H23 => j11 w24 H23))) (fun j8 => if (gI H7 (r + 2) 14 (Int32.toNatClampNeg v4)) = x5 then j8 1 H7 else j8 0 H7))) (fun j5 => if (gI H (r + 2) 1 11) ≤ v4 then j5 (-1) H else gd v4 40 (j5 ((gI H (r + 2) 6 (Int32.toNatClampNeg v4))) H)))))
set_option maxRecDepth 100000 in
set_option maxHeartbeats 4000000 in
theorem sL_X1_carryTo_15 {p : Program} {l : Launch} {e : Env} {s : State} {m : MethodId} {args : Array Value} {below : List Frame} {meth : Method} {c : Code} {A : Nat → Prop} {D : va_G} {K4 : kQ} {ad : Nat → Nat → Nat} {nr : Nat} {r : Nat} {b1 : Int32} {k : Int32 → Int32 → Hp → Option (Unit × Hp)} {res : Unit × Hp} (hC : Cx p s m args c A s.heap D K4 10 RX1 cX1_carryTo) (hret : meth.sig.returnType = none ∧ meth.locks = false) (hr_r : r < nr) (hk : ∀ (z4 : Int32) (z5 : Int32) (H : Hp), k z4 z5 H = some res → V p l e ({ frames := 1, cells := 0, slots := 0, locals := 22 }) s m args below meth c A s.heap (QU below args s A D K4 ad nr res) D K4 ad nr 10 143 [(0, .ref (ad 1 3)), (1, .int b1), (2, .ref (ad (r + 2) 1)), (4, .int z4), (5, .int z5)] [] H) : ∀ (n : Nat) (x4 : Int32) (x5 : Int32) (x6 : Int32) (H : Hp), L_X1_carryTo_15 r b1 k n x4 x5 x6 H = some res → V p l e ({ frames := 1, cells := 0, slots := 0, locals := 22 }) s m args below meth c A s.heap (QU below args s A D K4 ad nr res) D K4 ad nr 10 15 [(0, .ref (ad 1 3)), (1, .int b1), (2, .ref (ad (r + 2) 1)), (3, .ref (ad (r + 2) 6)), (4, .int x4), (5, .int x5), (6, .int x6)] [] H := by
  intro n
  induction n with
  | zero => intro x4 x5 x6 H h; exact nomatch (show (none : Option (Unit × Hp)) = some res from h)
  | succ n ih =>
    intro x4 x5 x6 H h
    rw [L_X1_carryTo_15] at h
    refine V_iload hC 6 dX1_carryTo_15 rfl ?_
    refine V_aload_n hC 2 dX1_carryTo_17 rfl ?_
    refine V_getI (g := (r + 2)) (k := 1) hC 3 10 fl_X1_52 (okR hr_r rfl) rfl rfl dX1_carryTo_18 ?_
    refine V_icmp_gt (tgt := 143) hC dX1_carryTo_21 (by decide) (fun c2 => ?_) (fun c2 => ?_)
    · have h := it_pos c2 h
      refine V_lv (lv' := [(0, .ref (ad 1 3)), (1, .int b1), (2, .ref (ad (r + 2) 1)), (4, .int x4), (5, .int x5)]) [0, 1, 2, 4, 5] rfl ?_
      exact hk x4 x5 H h
    · have h := it_neg c2 h
      refine V_aload_n hC 0 dX1_carryTo_24 rfl ?_
      refine V_getR (g := 1) (k := 3) (g' := 1) (k' := 10) hC 1 3 fl_X1_21 rfl rfl rfl rfl dX1_carryTo_25 ?_
      refine V_iload hC 5 dX1_carryTo_28 rfl ?_
      obtain ⟨hi, h⟩ := gd_some h
      refine V_iald (g := 1) (k := 10) hC rfl rfl hi dX1_carryTo_30 ?_
      refine V_iconst (v := -1) hC dX1_carryTo_31 (by decide) ?_
      refine V_icmp_eq (tgt := 143) hC dX1_carryTo_32 (by decide) (fun c3 => ?_) (fun c3 => ?_)
      · have h := it_pos c3 h
        refine V_lv (lv' := [(0, .ref (ad 1 3)), (1, .int b1), (2, .ref (ad (r + 2) 1)), (4, .int x4), (5, .int x5)]) [0, 1, 2, 4, 5] rfl ?_
        exact hk x4 x5 H h
      · have h := it_neg c3 h
        refine V_aload_n hC 0 dX1_carryTo_35 rfl ?_
        refine V_getR (g := 1) (k := 3) (g' := 1) (k' := 10) hC 1 3 fl_X1_21 rfl rfl rfl rfl dX1_carryTo_36 ?_
        refine V_iload hC 5 dX1_carryTo_39 rfl ?_
        obtain ⟨hi, h⟩ := gd_some h
        refine V_iald (g := 1) (k := 10) hC rfl rfl hi dX1_carryTo_41 ?_
        refine V_vlI h (fun v4 h => ?_)
        refine V_istore (lv' := [(7, .int v4), (0, .ref (ad 1 3)), (1, .int b1), (2, .ref (ad (r + 2) 1)), (3, .ref (ad (r + 2) 6)), (4, .int x4), (5, .int x5), (6, .int x6)]) hC dX1_carryTo_42 (Nat.le_of_ble_eq_true rfl) rfl ?_
        refine V_iload hC 0 dX1_carryTo_44 rfl ?_
        refine V_aload_n hC 3 dX1_carryTo_46 rfl ?_
        refine V_getI (g := (r + 2)) (k := 1) hC 3 11 fl_X1_40 (okR hr_r rfl) rfl rfl dX1_carryTo_47 ?_
        refine V_jn1 (pj := 61) (lj := fun y6 => [(0, .ref (ad 1 3)), (1, .int b1), (2, .ref (ad (r + 2) 1)), (3, .ref (ad (r + 2) 6)), (4, .int x4), (5, .int x5), (6, .int x6), (7, .int v4)]) (sj := fun y6 => [.int y6]) h (fun y6 H7 h => ?_) (fun hj5 h => ?_)
        · refine V_istore (lv' := [(8, .int y6), (0, .ref (ad 1 3)), (1, .int b1), (2, .ref (ad (r + 2) 1)), (3, .ref (ad (r + 2) 6)), (4, .int x4), (5, .int x5), (6, .int x6), (7, .int v4)]) hC dX1_carryTo_61 (Nat.le_of_ble_eq_true rfl) rfl ?_
          refine V_aload_n hC 3 dX1_carryTo_63 rfl ?_
          refine V_getR (g := (r + 2)) (k := 1) (g' := (r + 2)) (k' := 14) hC 3 6 fl_X1_61 (okR hr_r rfl) rfl rfl rfl dX1_carryTo_64 ?_
          refine V_iload hC 8 dX1_carryTo_67 rfl ?_
          obtain ⟨hi, h⟩ := gd_some h
          refine V_iald (g := (r + 2)) (k := 14) hC (okR hr_r rfl) rfl hi dX1_carryTo_69 ?_
          refine V_iload hC 6 dX1_carryTo_70 rfl ?_
          refine V_jn1 (pj := 80) (lj := fun y9 => [(0, .ref (ad 1 3)), (1, .int b1), (2, .ref (ad (r + 2) 1)), (3, .ref (ad (r + 2) 6)), (4, .int x4), (6, .int x6), (7, .int v4), (8, .int y6)]) (sj := fun y9 => [.int y9]) h (fun y9 H10 h => ?_) (fun hj8 h => ?_)
          · refine V_istore (lv' := [(9, .int y9), (0, .ref (ad 1 3)), (1, .int b1), (2, .ref (ad (r + 2) 1)), (3, .ref (ad (r + 2) 6)), (4, .int x4), (6, .int x6), (7, .int v4), (8, .int y6)]) hC dX1_carryTo_80 (Nat.le_of_ble_eq_true rfl) rfl ?_
            refine V_iload hC 5 dX1_carryTo_82 rfl ?_
            refine V_iload hC 0 dX1_carryTo_84 rfl ?_
            refine V_jn1 (pj := 108) (lj := fun y12 => [(0, .ref (ad 1 3)), (1, .int b1), (2, .ref (ad (r + 2) 1)), (3, .ref (ad (r + 2) 6)), (6, .int x6), (7, .int v4), (9, .int y9)]) (sj := fun y12 => [.int y12, .int x4]) h (fun y12 H13 h => ?_) (fun hj11 h => ?_)
            · refine V_mmin hC mm_X1_82 ⟨Nat.le_of_ble_eq_true rfl, Nat.le_of_ble_eq_true rfl⟩ dX1_carryTo_108 ?_
              refine V_vlI h (fun v14 h => ?_)
              refine V_istore (lv' := [(4, .int v14), (0, .ref (ad 1 3)), (1, .int b1), (2, .ref (ad (r + 2) 1)), (3, .ref (ad (r + 2) 6)), (6, .int x6), (7, .int v4), (9, .int y9)]) hC dX1_carryTo_111 (Nat.le_of_ble_eq_true rfl) rfl ?_
              refine V_iload hC 7 dX1_carryTo_113 rfl ?_
              refine V_if_eq (tgt := 128) hC dX1_carryTo_115 (by decide) (fun c15 => ?_) (fun c15 => ?_)
              · have h := it_pos c15 h
                refine V_aload_n hC 3 dX1_carryTo_128 rfl ?_
                refine V_getR (g := (r + 2)) (k := 1) (g' := (r + 2)) (k' := 14) hC 3 6 fl_X1_61 (okR hr_r rfl) rfl rfl rfl dX1_carryTo_129 ?_
                refine V_iload hC 6 dX1_carryTo_132 rfl ?_
                obtain ⟨hi, h⟩ := gd_some h
                refine V_iald (g := (r + 2)) (k := 14) hC (okR hr_r rfl) rfl hi dX1_carryTo_134 ?_
                refine V_vlI h (fun v16 h => ?_)
                refine V_istore (lv' := [(5, .int v16), (4, .int v14), (0, .ref (ad 1 3)), (1, .int b1), (2, .ref (ad (r + 2) 1)), (3, .ref (ad (r + 2) 6)), (6, .int x6), (7, .int v4), (9, .int y9)]) hC dX1_carryTo_135 (Nat.le_of_ble_eq_true rfl) rfl ?_
                refine V_vi h (fun v17 hvv17 h => ?_)
                refine V_iinc (v := v17) (lv' := [(6, .int v17), (5, .int v16), (4, .int v14), (0, .ref (ad 1 3)), (1, .int b1), (2, .ref (ad (r + 2) 1)), (3, .ref (ad (r + 2) 6)), (7, .int v4), (9, .int y9)]) hC 6 dX1_carryTo_137 rfl hvv17.symm (Nat.le_of_ble_eq_true rfl) rfl ?_
                refine V_goto (tgt := 15) hC dX1_carryTo_140 (by decide) ?_
                refine V_lv (lv' := [(0, .ref (ad 1 3)), (1, .int b1), (2, .ref (ad (r + 2) 1)), (3, .ref (ad (r + 2) 6)), (4, .int v14), (5, .int v16), (6, .int v17)]) [3, 4, 5, 6, 2, 1, 0] rfl ?_
                exact ih v14 v16 v17 H13 h
              · have h := it_neg c15 h
                refine V_aload_n hC 3 dX1_carryTo_118 rfl ?_
                refine V_getR (g := (r + 2)) (k := 1) (g' := (r + 2)) (k' := 13) hC 3 5 fl_X1_58 (okR hr_r rfl) rfl rfl rfl dX1_carryTo_119 ?_
                refine V_iload hC 6 dX1_carryTo_122 rfl ?_
                obtain ⟨hi, h⟩ := gd_some h
                refine V_iald (g := (r + 2)) (k := 13) hC (okR hr_r rfl) rfl hi dX1_carryTo_124 ?_
                refine V_goto (tgt := 135) hC dX1_carryTo_125 (by decide) ?_
                refine V_vlI h (fun v18 h => ?_)
                refine V_istore (lv' := [(5, .int v18), (4, .int v14), (0, .ref (ad 1 3)), (1, .int b1), (2, .ref (ad (r + 2) 1)), (3, .ref (ad (r + 2) 6)), (6, .int x6), (7, .int v4), (9, .int y9)]) hC dX1_carryTo_135 (Nat.le_of_ble_eq_true rfl) rfl ?_
                refine V_vi h (fun v19 hvv19 h => ?_)
                refine V_iinc (v := v19) (lv' := [(6, .int v19), (5, .int v18), (4, .int v14), (0, .ref (ad 1 3)), (1, .int b1), (2, .ref (ad (r + 2) 1)), (3, .ref (ad (r + 2) 6)), (7, .int v4), (9, .int y9)]) hC 6 dX1_carryTo_137 rfl hvv19.symm (Nat.le_of_ble_eq_true rfl) rfl ?_
                refine V_goto (tgt := 15) hC dX1_carryTo_140 (by decide) ?_
                refine V_lv (lv' := [(0, .ref (ad 1 3)), (1, .int b1), (2, .ref (ad (r + 2) 1)), (3, .ref (ad (r + 2) 6)), (4, .int v14), (5, .int v18), (6, .int v19)]) [3, 4, 5, 6, 2, 1, 0] rfl ?_
                exact ih v14 v18 v19 H13 h
            · refine V_if_eq (tgt := 100) hC dX1_carryTo_86 (by decide) (fun c20 => ?_) (fun c20 => ?_)
              · have h := it_pos c20 h
                refine V_aload_n hC 1 dX1_carryTo_100 rfl ?_
                refine V_iload hC 7 dX1_carryTo_101 rfl ?_
                refine V_iload hC 8 dX1_carryTo_103 rfl ?_
                obtain ⟨w22, H21, hc, h⟩ := bnd_some h
                refine V_calli (g := 1) (k := 3) (As := [.int v4, .int y6]) (st := [.int x4]) hC (c_X1_roomForLess l hc) rfl ml_X1_79 ⟨Nat.le_of_ble_eq_true rfl, Nat.le_of_ble_eq_true rfl⟩ rfl rfl rfl (Nat.le_of_ble_eq_true rfl) dX1_carryTo_105 ?_
                refine V_lv (lv' := [(0, .ref (ad 1 3)), (1, .int b1), (2, .ref (ad (r + 2) 1)), (3, .ref (ad (r + 2) 6)), (6, .int x6), (7, .int v4), (9, .int y9)]) [1, 2, 3, 4, 6, 7, 0] rfl ?_
                exact hj11 w22 H21 h
              · have h := it_neg c20 h
                refine V_aload_n hC 1 dX1_carryTo_89 rfl ?_
                refine V_iload hC 7 dX1_carryTo_90 rfl ?_
                refine V_iload hC 8 dX1_carryTo_92 rfl ?_
                obtain ⟨w24, H23, hc, h⟩ := bnd_some h
                refine V_calli (g := 1) (k := 3) (As := [.int v4, .int y6]) (st := [.int x4]) hC (c_X1_roomForMore l hc) rfl ml_X1_76 ⟨Nat.le_of_ble_eq_true rfl, Nat.le_of_ble_eq_true rfl⟩ rfl rfl rfl (Nat.le_of_ble_eq_true rfl) dX1_carryTo_94 ?_
                refine V_goto (tgt := 108) hC dX1_carryTo_97 (by decide) ?_
                refine V_lv (lv' := [(0, .ref (ad 1 3)), (1, .int b1), (2, .ref (ad (r + 2) 1)), (3, .ref (ad (r + 2) 6)), (6, .int x6), (7, .int v4), (9, .int y9)]) [1, 2, 3, 4, 6, 7, 0] rfl ?_
                exact hj11 w24 H23 h
          · refine V_icmp_ne (tgt := 79) hC dX1_carryTo_72 (by decide) (fun c25 => ?_) (fun c25 => ?_)
            · have h := it_neg c25 h
              refine V_iconst (v := 0) hC dX1_carryTo_79 (by decide) ?_
              refine V_lv (lv' := [(0, .ref (ad 1 3)), (1, .int b1), (2, .ref (ad (r + 2) 1)), (3, .ref (ad (r + 2) 6)), (4, .int x4), (6, .int x6), (7, .int v4), (8, .int y6)]) [1, 2, 3, 4, 5, 7, 8, 0] rfl ?_
              exact hj8 0 H7 h
            · have h := it_pos c25 h
              refine V_iconst (v := 1) hC dX1_carryTo_75 (by decide) ?_
              refine V_goto (tgt := 80) hC dX1_carryTo_76 (by decide) ?_
              refine V_lv (lv' := [(0, .ref (ad 1 3)), (1, .int b1), (2, .ref (ad (r + 2) 1)), (3, .ref (ad (r + 2) 6)), (4, .int x4), (6, .int x6), (7, .int v4), (8, .int y6)]) [1, 2, 3, 4, 5, 7, 8, 0] rfl ?_
              exact hj8 1 H7 h
        · refine V_icmp_ge (tgt := 60) hC dX1_carryTo_50 (by decide) (fun c26 => ?_) (fun c26 => ?_)
          · have h := it_pos c26 h
            refine V_iconst (v := -1) hC dX1_carryTo_60 (by decide) ?_
            refine V_lv (lv' := [(0, .ref (ad 1 3)), (1, .int b1), (2, .ref (ad (r + 2) 1)), (3, .ref (ad (r + 2) 6)), (4, .int x4), (5, .int x5), (6, .int x6), (7, .int v4)]) [1, 2, 3, 4, 5, 6, 7, 0] rfl ?_
            exact hj5 (-1) H h
          · have h := it_neg c26 h
            refine V_aload_n hC 4 dX1_carryTo_53 rfl ?_
            refine V_iload hC 0 dX1_carryTo_54 rfl ?_
            obtain ⟨hi, h⟩ := gd_some h
            refine V_iald (g := (r + 2)) (k := 6) hC (okR hr_r rfl) rfl hi dX1_carryTo_56 ?_
            refine V_goto (tgt := 61) hC dX1_carryTo_57 (by decide) ?_
            refine V_lv (lv' := [(0, .ref (ad 1 3)), (1, .int b1), (2, .ref (ad (r + 2) 1)), (3, .ref (ad (r + 2) 6)), (4, .int x4), (5, .int x5), (6, .int x6), (7, .int v4)]) [1, 2, 3, 4, 5, 6, 7, 0] rfl ?_
            exact hj5 ((gI H (r + 2) 6 (Int32.toNatClampNeg v4))) H h
def L_X1_carryTo_186 (r : Nat) (b4 : Int32) (k : Hp → Option (Unit × Hp)) : Nat → Int32 → Int32 → Hp → Option (Unit × Hp)
  | 0, _, _, _ => none
  | n + 1, x5, x6, H => if (gI H (r + 2) 1 10) < x6 then k H else gd x5 21 (if (gI H 1 10 (Int32.toNatClampNeg x5)) = (-1) then k H else gd x5 21 (vl ((gI H 1 10 (Int32.toNatClampNeg x5))) (fun (v35 : Int32) => gd v35 61 (jn (fun (y37 : Int32) (H38 : Hp) => gd v35 61 (jn (fun (y40 : Int32) (H41 : Hp) => gd v35 61 (hl (sI H41 1 7 (Int32.toNatClampNeg v35) ((gI H38 1 7 (Int32.toNatClampNeg v35)) + y40)) (fun (H42 : Hp) => if y37 = 0 then gd v35 61 (vl ((gI H42 (r + 2) 14 (Int32.toNatClampNeg v35))) (fun (v44 : Int32) => vl (x6 + (1 : Int32)) (fun (v45 : Int32) => L_X1_carryTo_186 r b4 k n v44 v45 H42))) else gd v35 61 (vl ((gI H42 (r + 2) 13 (Int32.toNatClampNeg v35))) (fun (v46 : Int32) => vl (x6 + (1 : Int32)) (fun (v47 : Int32) => L_X1_carryTo_186 r b4 k n v46 v47 H42)))))) (fun j39 => if y37 = 0 then j39 (-b4) H38 else j39 b4 H38))) (fun j36 => if (gI H (r + 2) 14 (Int32.toNatClampNeg v35)) = x5 then j36 1 H else j36 0 H)))))
set_option maxRecDepth 100000 in
set_option maxHeartbeats 4000000 in
theorem sL_X1_carryTo_186 {p : Program} {l : Launch} {e : Env} {s : State} {m : MethodId} {args : Array Value} {below : List Frame} {meth : Method} {c : Code} {A : Nat → Prop} {D : va_G} {K4 : kQ} {ad : Nat → Nat → Nat} {nr : Nat} {r : Nat} {b4 : Int32} {k : Hp → Option (Unit × Hp)} {res : Unit × Hp} (hC : Cx p s m args c A s.heap D K4 10 RX1 cX1_carryTo) (hret : meth.sig.returnType = none ∧ meth.locks = false) (hr_r : r < nr) (hk : ∀ (H : Hp), k H = some res → V p l e ({ frames := 1, cells := 0, slots := 0, locals := 22 }) s m args below meth c A s.heap (QU below args s A D K4 ad nr res) D K4 ad nr 10 287 [] [] H) : ∀ (n : Nat) (x5 : Int32) (x6 : Int32) (H : Hp), L_X1_carryTo_186 r b4 k n x5 x6 H = some res → V p l e ({ frames := 1, cells := 0, slots := 0, locals := 22 }) s m args below meth c A s.heap (QU below args s A D K4 ad nr res) D K4 ad nr 10 186 [(0, .ref (ad 1 3)), (2, .ref (ad (r + 2) 1)), (4, .int b4), (5, .int x5), (6, .int x6)] [] H := by
  intro n
  induction n with
  | zero => intro x5 x6 H h; exact nomatch (show (none : Option (Unit × Hp)) = some res from h)
  | succ n ih =>
    intro x5 x6 H h
    rw [L_X1_carryTo_186] at h
    refine V_iload hC 4 dX1_carryTo_186 rfl ?_
    refine V_aload_n hC 1 dX1_carryTo_188 rfl ?_
    refine V_getI (g := (r + 2)) (k := 1) hC 3 10 fl_X1_52 (okR hr_r rfl) rfl rfl dX1_carryTo_189 ?_
    refine V_icmp_gt (tgt := 287) hC dX1_carryTo_192 (by decide) (fun c33 => ?_) (fun c33 => ?_)
    · have h := it_pos c33 h
      refine V_lv (lv' := []) [] rfl ?_
      exact hk H h
    · have h := it_neg c33 h
      refine V_aload_n hC 0 dX1_carryTo_195 rfl ?_
      refine V_getR (g := 1) (k := 3) (g' := 1) (k' := 10) hC 1 3 fl_X1_21 rfl rfl rfl rfl dX1_carryTo_196 ?_
      refine V_iload hC 3 dX1_carryTo_199 rfl ?_
      obtain ⟨hi, h⟩ := gd_some h
      refine V_iald (g := 1) (k := 10) hC rfl rfl hi dX1_carryTo_201 ?_
      refine V_iconst (v := -1) hC dX1_carryTo_202 (by decide) ?_
      refine V_icmp_eq (tgt := 287) hC dX1_carryTo_203 (by decide) (fun c34 => ?_) (fun c34 => ?_)
      · have h := it_pos c34 h
        refine V_lv (lv' := []) [] rfl ?_
        exact hk H h
      · have h := it_neg c34 h
        refine V_aload_n hC 0 dX1_carryTo_206 rfl ?_
        refine V_getR (g := 1) (k := 3) (g' := 1) (k' := 10) hC 1 3 fl_X1_21 rfl rfl rfl rfl dX1_carryTo_207 ?_
        refine V_iload hC 3 dX1_carryTo_210 rfl ?_
        obtain ⟨hi, h⟩ := gd_some h
        refine V_iald (g := 1) (k := 10) hC rfl rfl hi dX1_carryTo_212 ?_
        refine V_vlI h (fun v35 h => ?_)
        refine V_istore (lv' := [(7, .int v35), (0, .ref (ad 1 3)), (2, .ref (ad (r + 2) 1)), (4, .int b4), (5, .int x5), (6, .int x6)]) hC dX1_carryTo_213 (Nat.le_of_ble_eq_true rfl) rfl ?_
        refine V_aload_n hC 2 dX1_carryTo_215 rfl ?_
        refine V_getR (g := (r + 2)) (k := 1) (g' := (r + 2)) (k' := 14) hC 3 6 fl_X1_61 (okR hr_r rfl) rfl rfl rfl dX1_carryTo_216 ?_
        refine V_iload hC 0 dX1_carryTo_219 rfl ?_
        obtain ⟨hi, h⟩ := gd_some h
        refine V_iald (g := (r + 2)) (k := 14) hC (okR hr_r rfl) rfl hi dX1_carryTo_221 ?_
        refine V_iload hC 4 dX1_carryTo_222 rfl ?_
        refine V_jn1 (pj := 232) (lj := fun y37 => [(0, .ref (ad 1 3)), (2, .ref (ad (r + 2) 1)), (4, .int b4), (6, .int x6), (7, .int v35)]) (sj := fun y37 => [.int y37]) h (fun y37 H38 h => ?_) (fun hj36 h => ?_)
        · refine V_istore (lv' := [(8, .int y37), (0, .ref (ad 1 3)), (2, .ref (ad (r + 2) 1)), (4, .int b4), (6, .int x6), (7, .int v35)]) hC dX1_carryTo_232 (Nat.le_of_ble_eq_true rfl) rfl ?_
          refine V_aload_n hC 1 dX1_carryTo_234 rfl ?_
          refine V_getR (g := 1) (k := 3) (g' := 1) (k' := 7) hC 1 0 fl_X1_9 rfl rfl rfl rfl dX1_carryTo_235 ?_
          refine V_iload hC 5 dX1_carryTo_238 rfl ?_
          refine V_dup2 hC dX1_carryTo_240 rfl rfl ?_
          obtain ⟨hi, h⟩ := gd_some h
          refine V_iald (g := 1) (k := 7) hC rfl rfl hi dX1_carryTo_241 ?_
          refine V_iload hC 0 dX1_carryTo_242 rfl ?_
          refine V_jn1 (pj := 255) (lj := fun y40 => [(0, .ref (ad 1 3)), (2, .ref (ad (r + 2) 1)), (4, .int b4), (6, .int x6), (7, .int v35), (8, .int y37)]) (sj := fun y40 => [.int y40, .int (gI H38 1 7 (Int32.toNatClampNeg v35)), .int v35, .ref (ad 1 7)]) h (fun y40 H41 h => ?_) (fun hj39 h => ?_)
          · refine V_iadd hC dX1_carryTo_255 ?_
            obtain ⟨hi, h⟩ := gd_some h
            refine V_iast (g := 1) (k := 7) hC rfl rfl hi dX1_carryTo_256 ?_
            refine V_hl h (fun H42 h => ?_)
            refine V_iload hC 5 dX1_carryTo_257 rfl ?_
            refine V_if_eq (tgt := 272) hC dX1_carryTo_259 (by decide) (fun c43 => ?_) (fun c43 => ?_)
            · have h := it_pos c43 h
              refine V_aload_n hC 1 dX1_carryTo_272 rfl ?_
              refine V_getR (g := (r + 2)) (k := 1) (g' := (r + 2)) (k' := 14) hC 3 6 fl_X1_61 (okR hr_r rfl) rfl rfl rfl dX1_carryTo_273 ?_
              refine V_iload hC 4 dX1_carryTo_276 rfl ?_
              obtain ⟨hi, h⟩ := gd_some h
              refine V_iald (g := (r + 2)) (k := 14) hC (okR hr_r rfl) rfl hi dX1_carryTo_278 ?_
              refine V_vlI h (fun v44 h => ?_)
              refine V_istore (lv' := [(5, .int v44), (0, .ref (ad 1 3)), (2, .ref (ad (r + 2) 1)), (4, .int b4), (6, .int x6), (7, .int v35), (8, .int y37)]) hC dX1_carryTo_279 (Nat.le_of_ble_eq_true rfl) rfl ?_
              refine V_vi h (fun v45 hvv45 h => ?_)
              refine V_iinc (v := v45) (lv' := [(6, .int v45), (5, .int v44), (0, .ref (ad 1 3)), (2, .ref (ad (r + 2) 1)), (4, .int b4), (7, .int v35), (8, .int y37)]) hC 4 dX1_carryTo_281 rfl hvv45.symm (Nat.le_of_ble_eq_true rfl) rfl ?_
              refine V_goto (tgt := 186) hC dX1_carryTo_284 (by decide) ?_
              refine V_lv (lv' := [(0, .ref (ad 1 3)), (2, .ref (ad (r + 2) 1)), (4, .int b4), (5, .int v44), (6, .int v45)]) [2, 3, 4, 1, 0] rfl ?_
              exact ih v44 v45 H42 h
            · have h := it_neg c43 h
              refine V_aload_n hC 1 dX1_carryTo_262 rfl ?_
              refine V_getR (g := (r + 2)) (k := 1) (g' := (r + 2)) (k' := 13) hC 3 5 fl_X1_58 (okR hr_r rfl) rfl rfl rfl dX1_carryTo_263 ?_
              refine V_iload hC 4 dX1_carryTo_266 rfl ?_
              obtain ⟨hi, h⟩ := gd_some h
              refine V_iald (g := (r + 2)) (k := 13) hC (okR hr_r rfl) rfl hi dX1_carryTo_268 ?_
              refine V_goto (tgt := 279) hC dX1_carryTo_269 (by decide) ?_
              refine V_vlI h (fun v46 h => ?_)
              refine V_istore (lv' := [(5, .int v46), (0, .ref (ad 1 3)), (2, .ref (ad (r + 2) 1)), (4, .int b4), (6, .int x6), (7, .int v35), (8, .int y37)]) hC dX1_carryTo_279 (Nat.le_of_ble_eq_true rfl) rfl ?_
              refine V_vi h (fun v47 hvv47 h => ?_)
              refine V_iinc (v := v47) (lv' := [(6, .int v47), (5, .int v46), (0, .ref (ad 1 3)), (2, .ref (ad (r + 2) 1)), (4, .int b4), (7, .int v35), (8, .int y37)]) hC 4 dX1_carryTo_281 rfl hvv47.symm (Nat.le_of_ble_eq_true rfl) rfl ?_
              refine V_goto (tgt := 186) hC dX1_carryTo_284 (by decide) ?_
              refine V_lv (lv' := [(0, .ref (ad 1 3)), (2, .ref (ad (r + 2) 1)), (4, .int b4), (5, .int v46), (6, .int v47)]) [2, 3, 4, 1, 0] rfl ?_
              exact ih v46 v47 H42 h
          · refine V_if_eq (tgt := 252) hC dX1_carryTo_244 (by decide) (fun c48 => ?_) (fun c48 => ?_)
            · have h := it_pos c48 h
              refine V_iload hC 3 dX1_carryTo_252 rfl ?_
              refine V_ineg hC dX1_carryTo_254 ?_
              refine V_lv (lv' := [(0, .ref (ad 1 3)), (2, .ref (ad (r + 2) 1)), (4, .int b4), (6, .int x6), (7, .int v35), (8, .int y37)]) [1, 2, 3, 4, 5, 0] rfl ?_
              exact hj39 (-b4) H38 h
            · have h := it_neg c48 h
              refine V_iload hC 3 dX1_carryTo_247 rfl ?_
              refine V_goto (tgt := 255) hC dX1_carryTo_249 (by decide) ?_
              refine V_lv (lv' := [(0, .ref (ad 1 3)), (2, .ref (ad (r + 2) 1)), (4, .int b4), (6, .int x6), (7, .int v35), (8, .int y37)]) [1, 2, 3, 4, 5, 0] rfl ?_
              exact hj39 b4 H38 h
        · refine V_icmp_ne (tgt := 231) hC dX1_carryTo_224 (by decide) (fun c49 => ?_) (fun c49 => ?_)
          · have h := it_neg c49 h
            refine V_iconst (v := 0) hC dX1_carryTo_231 (by decide) ?_
            refine V_lv (lv' := [(0, .ref (ad 1 3)), (2, .ref (ad (r + 2) 1)), (4, .int b4), (6, .int x6), (7, .int v35)]) [1, 2, 3, 5, 0] rfl ?_
            exact hj36 0 H h
          · have h := it_pos c49 h
            refine V_iconst (v := 1) hC dX1_carryTo_227 (by decide) ?_
            refine V_goto (tgt := 232) hC dX1_carryTo_228 (by decide) ?_
            refine V_lv (lv' := [(0, .ref (ad 1 3)), (2, .ref (ad (r + 2) 1)), (4, .int b4), (6, .int x6), (7, .int v35)]) [1, 2, 3, 5, 0] rfl ?_
            exact hj36 1 H h
def f_X1_carryTo (r : Nat) (a1 : Int32) (H : Hp) : Option (Unit × Hp) := gd a1 21 (vl ((-(gI H 1 8 (Int32.toNatClampNeg a1)))) (fun (v1 : Int32) => L_X1_carryTo_15 r a1 (fun (z27 : Int32) (z28 : Int32) (H29 : Hp) => gd z28 21 (vl ((if (gI H29 1 8 (Int32.toNatClampNeg z28)) < z27 then (gI H29 1 8 (Int32.toNatClampNeg z28)) else z27)) (fun (v30 : Int32) => gd z28 21 (gd z28 21 (hl (sI H29 1 8 (Int32.toNatClampNeg z28) ((gI H29 1 8 (Int32.toNatClampNeg z28)) - v30)) (fun (H31 : Hp) => gd a1 21 (gd a1 21 (hl (sI H31 1 8 (Int32.toNatClampNeg a1) ((gI H31 1 8 (Int32.toNatClampNeg a1)) + v30)) (fun (H32 : Hp) => L_X1_carryTo_186 r v30 (fun (H50 : Hp) => some ((), H50)) FU a1 0 H32))))))))) FU v1 a1 0 H))
set_option maxRecDepth 100000 in
set_option maxHeartbeats 4000000 in
theorem s_X1_carryTo {p : Program} {l : Launch} {e : Env} {s : State} {m : MethodId} {args : Array Value} {below : List Frame} {meth : Method} {c : Code} {A : Nat → Prop} {D : va_G} {K4 : kQ} {ad : Nat → Nat → Nat} {nr : Nat} {r : Nat} {a1 : Int32} {H : Hp} {res : Unit × Hp} (hC : Cx p s m args c A s.heap D K4 10 RX1 cX1_carryTo) (hret : meth.sig.returnType = none ∧ meth.locks = false) (hr_r : r < nr) (h : f_X1_carryTo r a1 H = some res) : V p l e ({ frames := 1, cells := 0, slots := 0, locals := 22 }) s m args below meth c A s.heap (QU below args s A D K4 ad nr res) D K4 ad nr 10 0 [(0, .ref (ad 1 3)), (1, .int a1), (2, .ref (ad (r + 2) 1)), (3, .ref (ad (r + 2) 6))] [] H := by
  unfold f_X1_carryTo at h
  refine V_aload_n hC 0 dX1_carryTo_0 rfl ?_
  refine V_getR (g := 1) (k := 3) (g' := 1) (k' := 8) hC 1 1 fl_X1_15 rfl rfl rfl rfl dX1_carryTo_1 ?_
  refine V_iload_n hC 1 dX1_carryTo_4 rfl ?_
  obtain ⟨hi, h⟩ := gd_some h
  refine V_iald (g := 1) (k := 8) hC rfl rfl hi dX1_carryTo_5 ?_
  refine V_ineg hC dX1_carryTo_6 ?_
  refine V_vlI h (fun v1 h => ?_)
  refine V_istore (lv' := [(4, .int v1), (0, .ref (ad 1 3)), (1, .int a1), (2, .ref (ad (r + 2) 1)), (3, .ref (ad (r + 2) 6))]) hC dX1_carryTo_7 (Nat.le_of_ble_eq_true rfl) rfl ?_
  refine V_iload_n hC 2 dX1_carryTo_9 rfl ?_
  refine V_istore (lv' := [(5, .int a1), (4, .int v1), (0, .ref (ad 1 3)), (1, .int a1), (2, .ref (ad (r + 2) 1)), (3, .ref (ad (r + 2) 6))]) hC dX1_carryTo_10 (Nat.le_of_ble_eq_true rfl) rfl ?_
  refine V_iconst (v := 0) hC dX1_carryTo_12 (by decide) ?_
  refine V_istore (lv' := [(6, .int 0), (5, .int a1), (4, .int v1), (0, .ref (ad 1 3)), (1, .int a1), (2, .ref (ad (r + 2) 1)), (3, .ref (ad (r + 2) 6))]) hC dX1_carryTo_13 (Nat.le_of_ble_eq_true rfl) rfl ?_
  refine V_lv (lv' := [(0, .ref (ad 1 3)), (1, .int a1), (2, .ref (ad (r + 2) 1)), (3, .ref (ad (r + 2) 6)), (4, .int v1), (5, .int a1), (6, .int 0)]) [3, 4, 5, 6, 2, 1, 0] rfl ?_
  refine sL_X1_carryTo_15 hC hret hr_r (fun z27 z28 H29 h => ?_) _ v1 a1 0 H h
  refine V_iload hC 3 dX1_carryTo_143 rfl ?_
  refine V_aload_n hC 0 dX1_carryTo_145 rfl ?_
  refine V_getR (g := 1) (k := 3) (g' := 1) (k' := 8) hC 1 1 fl_X1_15 rfl rfl rfl rfl dX1_carryTo_146 ?_
  refine V_iload hC 4 dX1_carryTo_149 rfl ?_
  obtain ⟨hi, h⟩ := gd_some h
  refine V_iald (g := 1) (k := 8) hC rfl rfl hi dX1_carryTo_151 ?_
  refine V_mmin hC mm_X1_82 ⟨Nat.le_of_ble_eq_true rfl, Nat.le_of_ble_eq_true rfl⟩ dX1_carryTo_152 ?_
  refine V_vlI h (fun v30 h => ?_)
  refine V_istore (lv' := [(4, .int v30), (0, .ref (ad 1 3)), (1, .int a1), (2, .ref (ad (r + 2) 1)), (5, .int z28)]) hC dX1_carryTo_155 (Nat.le_of_ble_eq_true rfl) rfl ?_
  refine V_aload_n hC 1 dX1_carryTo_157 rfl ?_
  refine V_getR (g := 1) (k := 3) (g' := 1) (k' := 8) hC 1 1 fl_X1_15 rfl rfl rfl rfl dX1_carryTo_158 ?_
  refine V_iload hC 4 dX1_carryTo_161 rfl ?_
  refine V_dup2 hC dX1_carryTo_163 rfl rfl ?_
  obtain ⟨hi, h⟩ := gd_some h
  refine V_iald (g := 1) (k := 8) hC rfl rfl hi dX1_carryTo_164 ?_
  refine V_iload hC 0 dX1_carryTo_165 rfl ?_
  refine V_isub hC dX1_carryTo_167 ?_
  obtain ⟨hi, h⟩ := gd_some h
  refine V_iast (g := 1) (k := 8) hC rfl rfl hi dX1_carryTo_168 ?_
  refine V_hl h (fun H31 h => ?_)
  refine V_aload_n hC 1 dX1_carryTo_169 rfl ?_
  refine V_getR (g := 1) (k := 3) (g' := 1) (k' := 8) hC 1 1 fl_X1_15 rfl rfl rfl rfl dX1_carryTo_170 ?_
  refine V_iload_n hC 2 dX1_carryTo_173 rfl ?_
  refine V_dup2 hC dX1_carryTo_174 rfl rfl ?_
  obtain ⟨hi, h⟩ := gd_some h
  refine V_iald (g := 1) (k := 8) hC rfl rfl hi dX1_carryTo_175 ?_
  refine V_iload hC 0 dX1_carryTo_176 rfl ?_
  refine V_iadd hC dX1_carryTo_178 ?_
  obtain ⟨hi, h⟩ := gd_some h
  refine V_iast (g := 1) (k := 8) hC rfl rfl hi dX1_carryTo_179 ?_
  refine V_hl h (fun H32 h => ?_)
  refine V_iload_n hC 2 dX1_carryTo_180 rfl ?_
  refine V_istore (lv' := [(5, .int a1), (4, .int v30), (0, .ref (ad 1 3)), (1, .int a1), (2, .ref (ad (r + 2) 1))]) hC dX1_carryTo_181 (Nat.le_of_ble_eq_true rfl) rfl ?_
  refine V_iconst (v := 0) hC dX1_carryTo_183 (by decide) ?_
  refine V_istore (lv' := [(6, .int 0), (5, .int a1), (4, .int v30), (0, .ref (ad 1 3)), (1, .int a1), (2, .ref (ad (r + 2) 1))]) hC dX1_carryTo_184 (Nat.le_of_ble_eq_true rfl) rfl ?_
  refine V_lv (lv' := [(0, .ref (ad 1 3)), (2, .ref (ad (r + 2) 1)), (4, .int v30), (5, .int a1), (6, .int 0)]) [3, 5, 2, 1, 0] rfl ?_
  refine sL_X1_carryTo_186 hC hret hr_r (fun H50 h => ?_) _ a1 0 H32 h
  exact V_vret hC hret dX1_carryTo_287 h
theorem c_X1_carryTo (l : Launch) {nr : Nat} {r : Nat} (hr_r : r < nr) {a1 : Int32} {H : Hp} {x : Unit} {H' : Hp} (h : f_X1_carryTo r a1 H = some (x, H')) : CU l nr yX1_carryTo cX1_carryTo 10 none 1 22 (fun ad => [.ref (ad 1 3), .int a1, .ref (ad (r + 2) 1), .ref (ad (r + 2) 6)]) H x H' := by
  intro D K4 ad sz
  refine Met.ofV (by decide) (Nat.le_of_ble_eq_true rfl) ?_
  intro p e s m args below meth c hC hret hsz
  subst hsz
  exact s_X1_carryTo hC hret hr_r h
theorem dX1_leastChange_0 : decode cX1_leastChange 0 = .ok (.aload_n 0, 1) := by decide +kernel
theorem dX1_leastChange_1 : decode cX1_leastChange 1 = .ok (.aload_n 1, 1) := by decide +kernel
theorem dX1_leastChange_2 : decode cX1_leastChange 2 = .ok (.aload_n 2, 1) := by decide +kernel
theorem dX1_leastChange_3 : decode cX1_leastChange 3 = .ok (.invokevirtual 24, 3) := by decide +kernel
theorem dX1_leastChange_6 : decode cX1_leastChange 6 = .ok (.iconst 0, 1) := by decide +kernel
theorem dX1_leastChange_7 : decode cX1_leastChange 7 = .ok (.istore_n 3, 1) := by decide +kernel
theorem dX1_leastChange_8 : decode cX1_leastChange 8 = .ok (.iload_n 3, 1) := by decide +kernel
theorem dX1_leastChange_9 : decode cX1_leastChange 9 = .ok (.ldc 28, 2) := by decide +kernel
theorem dX1_leastChange_11 : decode cX1_leastChange 11 = .ok (.if_icmp .ge 39, 3) := by decide +kernel
theorem dX1_leastChange_14 : decode cX1_leastChange 14 = .ok (.aload_n 0, 1) := by decide +kernel
theorem dX1_leastChange_15 : decode cX1_leastChange 15 = .ok (.aload_n 1, 1) := by decide +kernel
theorem dX1_leastChange_16 : decode cX1_leastChange 16 = .ok (.aload_n 2, 1) := by decide +kernel
theorem dX1_leastChange_17 : decode cX1_leastChange 17 = .ok (.invokevirtual 29, 3) := by decide +kernel
theorem dX1_leastChange_20 : decode cX1_leastChange 20 = .ok (.aload_n 0, 1) := by decide +kernel
theorem dX1_leastChange_21 : decode cX1_leastChange 21 = .ok (.aload_n 1, 1) := by decide +kernel
theorem dX1_leastChange_22 : decode cX1_leastChange 22 = .ok (.invokevirtual 32, 3) := by decide +kernel
theorem dX1_leastChange_25 : decode cX1_leastChange 25 = .ok (.istore 4, 2) := by decide +kernel
theorem dX1_leastChange_27 : decode cX1_leastChange 27 = .ok (.iload 4, 2) := by decide +kernel
theorem dX1_leastChange_29 : decode cX1_leastChange 29 = .ok (.iconst (-1), 1) := by decide +kernel
theorem dX1_leastChange_30 : decode cX1_leastChange 30 = .ok (.if_icmp .ne 6, 3) := by decide +kernel
theorem dX1_leastChange_33 : decode cX1_leastChange 33 = .ok (.goto 17, 3) := by decide +kernel
theorem dX1_leastChange_36 : decode cX1_leastChange 36 = .ok (.aload_n 0, 1) := by decide +kernel
theorem dX1_leastChange_37 : decode cX1_leastChange 37 = .ok (.iload 4, 2) := by decide +kernel
theorem dX1_leastChange_39 : decode cX1_leastChange 39 = .ok (.aload_n 1, 1) := by decide +kernel
theorem dX1_leastChange_40 : decode cX1_leastChange 40 = .ok (.aload_n 2, 1) := by decide +kernel
theorem dX1_leastChange_41 : decode cX1_leastChange 41 = .ok (.invokevirtual 36, 3) := by decide +kernel
theorem dX1_leastChange_44 : decode cX1_leastChange 44 = .ok (.iinc 3 1, 3) := by decide +kernel
theorem dX1_leastChange_47 : decode cX1_leastChange 47 = .ok (.goto (-39), 3) := by decide +kernel
theorem dX1_leastChange_50 : decode cX1_leastChange 50 = .ok (.lconst 0, 1) := by decide +kernel
theorem dX1_leastChange_51 : decode cX1_leastChange 51 = .ok (.lstore_n 3, 1) := by decide +kernel
theorem dX1_leastChange_52 : decode cX1_leastChange 52 = .ok (.iconst 0, 1) := by decide +kernel
theorem dX1_leastChange_53 : decode cX1_leastChange 53 = .ok (.istore 5, 2) := by decide +kernel
theorem dX1_leastChange_55 : decode cX1_leastChange 55 = .ok (.iload 5, 2) := by decide +kernel
theorem dX1_leastChange_57 : decode cX1_leastChange 57 = .ok (.aload_n 1, 1) := by decide +kernel
theorem dX1_leastChange_58 : decode cX1_leastChange 58 = .ok (.getfield 40, 3) := by decide +kernel
theorem dX1_leastChange_61 : decode cX1_leastChange 61 = .ok (.if_icmp .ge 28, 3) := by decide +kernel
theorem dX1_leastChange_64 : decode cX1_leastChange 64 = .ok (.lload_n 3, 1) := by decide +kernel
theorem dX1_leastChange_65 : decode cX1_leastChange 65 = .ok (.aload_n 0, 1) := by decide +kernel
theorem dX1_leastChange_66 : decode cX1_leastChange 66 = .ok (.getfield 9, 3) := by decide +kernel
theorem dX1_leastChange_69 : decode cX1_leastChange 69 = .ok (.iload 5, 2) := by decide +kernel
theorem dX1_leastChange_71 : decode cX1_leastChange 71 = .ok (.iaload, 1) := by decide +kernel
theorem dX1_leastChange_72 : decode cX1_leastChange 72 = .ok (.aload_n 2, 1) := by decide +kernel
theorem dX1_leastChange_73 : decode cX1_leastChange 73 = .ok (.iload 5, 2) := by decide +kernel
theorem dX1_leastChange_75 : decode cX1_leastChange 75 = .ok (.iaload, 1) := by decide +kernel
theorem dX1_leastChange_76 : decode cX1_leastChange 76 = .ok (.isub, 1) := by decide +kernel
theorem dX1_leastChange_77 : decode cX1_leastChange 77 = .ok (.invokestatic 46, 3) := by decide +kernel
theorem dX1_leastChange_80 : decode cX1_leastChange 80 = .ok (.i2l, 1) := by decide +kernel
theorem dX1_leastChange_81 : decode cX1_leastChange 81 = .ok (.ladd, 1) := by decide +kernel
theorem dX1_leastChange_82 : decode cX1_leastChange 82 = .ok (.lstore_n 3, 1) := by decide +kernel
theorem dX1_leastChange_83 : decode cX1_leastChange 83 = .ok (.iinc 5 1, 3) := by decide +kernel
theorem dX1_leastChange_86 : decode cX1_leastChange 86 = .ok (.goto (-31), 3) := by decide +kernel
theorem dX1_leastChange_89 : decode cX1_leastChange 89 = .ok (.lload_n 3, 1) := by decide +kernel
theorem dX1_leastChange_90 : decode cX1_leastChange 90 = .ok (.lreturn, 1) := by decide +kernel
def L_X1_leastChange_8 (r : Nat) (k : Hp → Option (Int64 × Hp)) : Nat → Int32 → Hp → Option (Int64 × Hp)
  | 0, _, _ => none
  | n + 1, x3, H => if 1000000 ≤ x3 then k H else bnd (f_X1_measure r H) (fun w5 H4 => bnd (f_X1_nearestLack r H4) (fun w7 H6 => if w7 = (-1) then k H6 else bnd (f_X1_carryTo r w7 H6) (fun w10 H9 => vl (x3 + (1 : Int32)) (fun (v11 : Int32) => L_X1_leastChange_8 r k n v11 H9))))
set_option maxRecDepth 100000 in
set_option maxHeartbeats 4000000 in
theorem sL_X1_leastChange_8 {p : Program} {l : Launch} {e : Env} {s : State} {m : MethodId} {args : Array Value} {below : List Frame} {meth : Method} {c : Code} {A : Nat → Prop} {D : va_G} {K4 : kQ} {ad : Nat → Nat → Nat} {nr : Nat} {r : Nat} {k : Hp → Option (Int64 × Hp)} {res : Int64 × Hp} (hC : Cx p s m args c A s.heap D K4 6 RX1 cX1_leastChange) (hret : meth.sig.returnType = (some .long) ∧ meth.locks = false) (hr_r : r < nr) (hk : ∀ (H : Hp), k H = some res → V p l e ({ frames := 2, cells := 0, slots := 0, locals := 51 }) s m args below meth c A s.heap (QJ below args s A D K4 ad nr res) D K4 ad nr 6 50 [(0, .ref (ad 1 3)), (1, .ref (ad (r + 2) 1)), (2, .ref (ad (r + 2) 6))] [] H) : ∀ (n : Nat) (x3 : Int32) (H : Hp), L_X1_leastChange_8 r k n x3 H = some res → V p l e ({ frames := 2, cells := 0, slots := 0, locals := 51 }) s m args below meth c A s.heap (QJ below args s A D K4 ad nr res) D K4 ad nr 6 8 [(0, .ref (ad 1 3)), (1, .ref (ad (r + 2) 1)), (2, .ref (ad (r + 2) 6)), (3, .int x3)] [] H := by
  intro n
  induction n with
  | zero => intro x3 H h; exact nomatch (show (none : Option (Int64 × Hp)) = some res from h)
  | succ n ih =>
    intro x3 H h
    rw [L_X1_leastChange_8] at h
    refine V_iload_n hC 3 dX1_leastChange_8 rfl ?_
    refine V_ldc hC dX1_leastChange_9 cl_X1_28 ?_
    refine V_icmp_ge (tgt := 50) hC dX1_leastChange_11 (by decide) (fun c3 => ?_) (fun c3 => ?_)
    · have h := it_pos c3 h
      refine V_lv (lv' := [(0, .ref (ad 1 3)), (1, .ref (ad (r + 2) 1)), (2, .ref (ad (r + 2) 6))]) [0, 1, 2] rfl ?_
      exact hk H h
    · have h := it_neg c3 h
      refine V_aload_n hC 0 dX1_leastChange_14 rfl ?_
      refine V_aload_n hC 1 dX1_leastChange_15 rfl ?_
      refine V_aload_n hC 2 dX1_leastChange_16 rfl ?_
      obtain ⟨w5, H4, hc, h⟩ := bnd_some h
      refine V_callu (g := 1) (k := 3) (As := [.ref (ad (r + 2) 1), .ref (ad (r + 2) 6)]) (st := []) hC (c_X1_measure l (hr_r := hr_r) hc) rfl ml_X1_29 ⟨Nat.le_of_ble_eq_true rfl, Nat.le_of_ble_eq_true rfl⟩ rfl rfl rfl (Nat.le_of_ble_eq_true rfl) dX1_leastChange_17 ?_
      refine V_aload_n hC 0 dX1_leastChange_20 rfl ?_
      refine V_aload_n hC 1 dX1_leastChange_21 rfl ?_
      obtain ⟨w7, H6, hc, h⟩ := bnd_some h
      refine V_calli (g := 1) (k := 3) (As := [.ref (ad (r + 2) 1)]) (st := []) hC (c_X1_nearestLack l (hr_r := hr_r) hc) rfl ml_X1_32 ⟨Nat.le_of_ble_eq_true rfl, Nat.le_of_ble_eq_true rfl⟩ rfl rfl rfl (Nat.le_of_ble_eq_true rfl) dX1_leastChange_22 ?_
      refine V_istore (lv' := [(4, .int w7), (0, .ref (ad 1 3)), (1, .ref (ad (r + 2) 1)), (2, .ref (ad (r + 2) 6)), (3, .int x3)]) hC dX1_leastChange_25 (Nat.le_of_ble_eq_true rfl) rfl ?_
      refine V_iload hC 0 dX1_leastChange_27 rfl ?_
      refine V_iconst (v := -1) hC dX1_leastChange_29 (by decide) ?_
      refine V_icmp_ne (tgt := 36) hC dX1_leastChange_30 (by decide) (fun c8 => ?_) (fun c8 => ?_)
      · have h := it_neg c8 h
        refine V_aload_n hC 1 dX1_leastChange_36 rfl ?_
        refine V_iload hC 0 dX1_leastChange_37 rfl ?_
        refine V_aload_n hC 2 dX1_leastChange_39 rfl ?_
        refine V_aload_n hC 3 dX1_leastChange_40 rfl ?_
        obtain ⟨w10, H9, hc, h⟩ := bnd_some h
        refine V_callu (g := 1) (k := 3) (As := [.int w7, .ref (ad (r + 2) 1), .ref (ad (r + 2) 6)]) (st := []) hC (c_X1_carryTo l (hr_r := hr_r) hc) rfl ml_X1_36 ⟨Nat.le_of_ble_eq_true rfl, Nat.le_of_ble_eq_true rfl⟩ rfl rfl rfl (Nat.le_of_ble_eq_true rfl) dX1_leastChange_41 ?_
        refine V_vi h (fun v11 hvv11 h => ?_)
        refine V_iinc (v := v11) (lv' := [(3, .int v11), (4, .int w7), (0, .ref (ad 1 3)), (1, .ref (ad (r + 2) 1)), (2, .ref (ad (r + 2) 6))]) hC 4 dX1_leastChange_44 rfl hvv11.symm (Nat.le_of_ble_eq_true rfl) rfl ?_
        refine V_goto (tgt := 8) hC dX1_leastChange_47 (by decide) ?_
        refine V_lv (lv' := [(0, .ref (ad 1 3)), (1, .ref (ad (r + 2) 1)), (2, .ref (ad (r + 2) 6)), (3, .int v11)]) [2, 3, 4, 0] rfl ?_
        exact ih v11 H9 h
      · have h := it_pos c8 h
        refine V_goto (tgt := 50) hC dX1_leastChange_33 (by decide) ?_
        refine V_lv (lv' := [(0, .ref (ad 1 3)), (1, .ref (ad (r + 2) 1)), (2, .ref (ad (r + 2) 6))]) [1, 2, 3] rfl ?_
        exact hk H6 h
def L_X1_leastChange_55 (r : Nat) (k : Int64 → Hp → Option (Int64 × Hp)) : Nat → Int64 → Int32 → Hp → Option (Int64 × Hp)
  | 0, _, _, _ => none
  | n + 1, x3, x5, H => if (gI H (r + 2) 1 11) ≤ x5 then k x3 H else gd x5 61 (gd x5 40 (vl ((x3 + (Int32.toInt64 (if 0 ≤ ((gI H 1 7 (Int32.toNatClampNeg x5)) - (gI H (r + 2) 6 (Int32.toNatClampNeg x5))) then ((gI H 1 7 (Int32.toNatClampNeg x5)) - (gI H (r + 2) 6 (Int32.toNatClampNeg x5))) else 0 - ((gI H 1 7 (Int32.toNatClampNeg x5)) - (gI H (r + 2) 6 (Int32.toNatClampNeg x5))))))) (fun (v14 : Int64) => vl (x5 + (1 : Int32)) (fun (v15 : Int32) => L_X1_leastChange_55 r k n v14 v15 H))))
set_option maxRecDepth 100000 in
set_option maxHeartbeats 4000000 in
theorem sL_X1_leastChange_55 {p : Program} {l : Launch} {e : Env} {s : State} {m : MethodId} {args : Array Value} {below : List Frame} {meth : Method} {c : Code} {A : Nat → Prop} {D : va_G} {K4 : kQ} {ad : Nat → Nat → Nat} {nr : Nat} {r : Nat} {k : Int64 → Hp → Option (Int64 × Hp)} {res : Int64 × Hp} (hC : Cx p s m args c A s.heap D K4 6 RX1 cX1_leastChange) (hret : meth.sig.returnType = (some .long) ∧ meth.locks = false) (hr_r : r < nr) (hk : ∀ (z3 : Int64) (H : Hp), k z3 H = some res → V p l e ({ frames := 2, cells := 0, slots := 0, locals := 51 }) s m args below meth c A s.heap (QJ below args s A D K4 ad nr res) D K4 ad nr 6 89 [(3, .long z3)] [] H) : ∀ (n : Nat) (x3 : Int64) (x5 : Int32) (H : Hp), L_X1_leastChange_55 r k n x3 x5 H = some res → V p l e ({ frames := 2, cells := 0, slots := 0, locals := 51 }) s m args below meth c A s.heap (QJ below args s A D K4 ad nr res) D K4 ad nr 6 55 [(0, .ref (ad 1 3)), (1, .ref (ad (r + 2) 1)), (2, .ref (ad (r + 2) 6)), (3, .long x3), (5, .int x5)] [] H := by
  intro n
  induction n with
  | zero => intro x3 x5 H h; exact nomatch (show (none : Option (Int64 × Hp)) = some res from h)
  | succ n ih =>
    intro x3 x5 H h
    rw [L_X1_leastChange_55] at h
    refine V_iload hC 4 dX1_leastChange_55 rfl ?_
    refine V_aload_n hC 1 dX1_leastChange_57 rfl ?_
    refine V_getI (g := (r + 2)) (k := 1) hC 3 11 fl_X1_40 (okR hr_r rfl) rfl rfl dX1_leastChange_58 ?_
    refine V_icmp_ge (tgt := 89) hC dX1_leastChange_61 (by decide) (fun c13 => ?_) (fun c13 => ?_)
    · have h := it_pos c13 h
      refine V_lv (lv' := [(3, .long x3)]) [3] rfl ?_
      exact hk x3 H h
    · have h := it_neg c13 h
      refine V_lload_n hC 3 dX1_leastChange_64 rfl ?_
      refine V_aload_n hC 0 dX1_leastChange_65 rfl ?_
      refine V_getR (g := 1) (k := 3) (g' := 1) (k' := 7) hC 1 0 fl_X1_9 rfl rfl rfl rfl dX1_leastChange_66 ?_
      refine V_iload hC 4 dX1_leastChange_69 rfl ?_
      obtain ⟨hi, h⟩ := gd_some h
      refine V_iald (g := 1) (k := 7) hC rfl rfl hi dX1_leastChange_71 ?_
      refine V_aload_n hC 2 dX1_leastChange_72 rfl ?_
      refine V_iload hC 4 dX1_leastChange_73 rfl ?_
      obtain ⟨hi, h⟩ := gd_some h
      refine V_iald (g := (r + 2)) (k := 6) hC (okR hr_r rfl) rfl hi dX1_leastChange_75 ?_
      refine V_isub hC dX1_leastChange_76 ?_
      refine V_mabs hC mm_X1_46 ⟨Nat.le_of_ble_eq_true rfl, Nat.le_of_ble_eq_true rfl⟩ dX1_leastChange_77 ?_
      refine V_i2l hC dX1_leastChange_80 ?_
      refine V_ladd hC dX1_leastChange_81 ?_
      refine V_vlJ h (fun v14 h => ?_)
      refine V_lstore_n (lv' := [(3, .long v14), (0, .ref (ad 1 3)), (1, .ref (ad (r + 2) 1)), (2, .ref (ad (r + 2) 6)), (5, .int x5)]) hC dX1_leastChange_82 (Nat.le_of_ble_eq_true rfl) rfl ?_
      refine V_vi h (fun v15 hvv15 h => ?_)
      refine V_iinc (v := v15) (lv' := [(5, .int v15), (3, .long v14), (0, .ref (ad 1 3)), (1, .ref (ad (r + 2) 1)), (2, .ref (ad (r + 2) 6))]) hC 4 dX1_leastChange_83 rfl hvv15.symm (Nat.le_of_ble_eq_true rfl) rfl ?_
      refine V_goto (tgt := 55) hC dX1_leastChange_86 (by decide) ?_
      refine V_lv (lv' := [(0, .ref (ad 1 3)), (1, .ref (ad (r + 2) 1)), (2, .ref (ad (r + 2) 6)), (3, .long v14), (5, .int v15)]) [2, 3, 4, 1, 0] rfl ?_
      exact ih v14 v15 H h
def f_X1_leastChange (r : Nat) (H : Hp) : Option (Int64 × Hp) := bnd (f_X1_takeCounts r H) (fun w2 H1 => L_X1_leastChange_8 r (fun (H12 : Hp) => L_X1_leastChange_55 r (fun (z16 : Int64) (H17 : Hp) => some (z16, H17)) FU 0 0 H12) FU 0 H1)
set_option maxRecDepth 100000 in
set_option maxHeartbeats 4000000 in
theorem s_X1_leastChange {p : Program} {l : Launch} {e : Env} {s : State} {m : MethodId} {args : Array Value} {below : List Frame} {meth : Method} {c : Code} {A : Nat → Prop} {D : va_G} {K4 : kQ} {ad : Nat → Nat → Nat} {nr : Nat} {r : Nat} {H : Hp} {res : Int64 × Hp} (hC : Cx p s m args c A s.heap D K4 6 RX1 cX1_leastChange) (hret : meth.sig.returnType = (some .long) ∧ meth.locks = false) (hr_r : r < nr) (h : f_X1_leastChange r H = some res) : V p l e ({ frames := 2, cells := 0, slots := 0, locals := 51 }) s m args below meth c A s.heap (QJ below args s A D K4 ad nr res) D K4 ad nr 6 0 [(0, .ref (ad 1 3)), (1, .ref (ad (r + 2) 1)), (2, .ref (ad (r + 2) 6))] [] H := by
  unfold f_X1_leastChange at h
  refine V_aload_n hC 0 dX1_leastChange_0 rfl ?_
  refine V_aload_n hC 1 dX1_leastChange_1 rfl ?_
  refine V_aload_n hC 2 dX1_leastChange_2 rfl ?_
  obtain ⟨w2, H1, hc, h⟩ := bnd_some h
  refine V_callu (g := 1) (k := 3) (As := [.ref (ad (r + 2) 1), .ref (ad (r + 2) 6)]) (st := []) hC (c_X1_takeCounts l (hr_r := hr_r) hc) rfl ml_X1_24 ⟨Nat.le_of_ble_eq_true rfl, Nat.le_of_ble_eq_true rfl⟩ rfl rfl rfl (Nat.le_of_ble_eq_true rfl) dX1_leastChange_3 ?_
  refine V_iconst (v := 0) hC dX1_leastChange_6 (by decide) ?_
  refine V_istore_n (lv' := [(3, .int 0), (0, .ref (ad 1 3)), (1, .ref (ad (r + 2) 1)), (2, .ref (ad (r + 2) 6))]) hC dX1_leastChange_7 (Nat.le_of_ble_eq_true rfl) rfl ?_
  refine V_lv (lv' := [(0, .ref (ad 1 3)), (1, .ref (ad (r + 2) 1)), (2, .ref (ad (r + 2) 6)), (3, .int 0)]) [1, 2, 3, 0] rfl ?_
  refine sL_X1_leastChange_8 hC hret hr_r (fun H12 h => ?_) _ 0 H1 h
  refine V_lconst (v := 0) hC dX1_leastChange_50 (by decide) ?_
  refine V_lstore_n (lv' := [(3, .long 0), (0, .ref (ad 1 3)), (1, .ref (ad (r + 2) 1)), (2, .ref (ad (r + 2) 6))]) hC dX1_leastChange_51 (Nat.le_of_ble_eq_true rfl) rfl ?_
  refine V_iconst (v := 0) hC dX1_leastChange_52 (by decide) ?_
  refine V_istore (lv' := [(5, .int 0), (3, .long 0), (0, .ref (ad 1 3)), (1, .ref (ad (r + 2) 1)), (2, .ref (ad (r + 2) 6))]) hC dX1_leastChange_53 (Nat.le_of_ble_eq_true rfl) rfl ?_
  refine V_lv (lv' := [(0, .ref (ad 1 3)), (1, .ref (ad (r + 2) 1)), (2, .ref (ad (r + 2) 6)), (3, .long 0), (5, .int 0)]) [2, 3, 4, 1, 0] rfl ?_
  refine sL_X1_leastChange_55 hC hret hr_r (fun z16 H17 h => ?_) _ 0 0 H12 h
  refine V_lload_n hC 0 dX1_leastChange_89 rfl ?_
  exact V_lret hC hret dX1_leastChange_90 h
theorem c_X1_leastChange (l : Launch) {nr : Nat} {r : Nat} (hr_r : r < nr) {H : Hp} {x : Int64} {H' : Hp} (h : f_X1_leastChange r H = some (x, H')) : CJ l nr yX1_leastChange cX1_leastChange 6 (some .long) 2 51 (fun ad => [.ref (ad 1 3), .ref (ad (r + 2) 1), .ref (ad (r + 2) 6)]) H x H' := by
  intro D K4 ad sz
  refine Met.ofV (by decide) (Nat.le_of_ble_eq_true rfl) ?_
  intro p e s m args below meth c hC hret hsz
  subst hsz
  exact s_X1_leastChange hC hret hr_r h
