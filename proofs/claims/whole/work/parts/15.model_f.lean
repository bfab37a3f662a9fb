theorem dX9_ends_0 : decode cX9_ends 0 = .ok (.iconst 0, 1) := by decide +kernel
theorem dX9_ends_1 : decode cX9_ends 1 = .ok (.istore 4, 2) := by decide +kernel
theorem dX9_ends_3 : decode cX9_ends 3 = .ok (.iload 4, 2) := by decide +kernel
theorem dX9_ends_5 : decode cX9_ends 5 = .ok (.aload_n 0, 1) := by decide +kernel
theorem dX9_ends_6 : decode cX9_ends 6 = .ok (.getfield 81, 3) := by decide +kernel
theorem dX9_ends_9 : decode cX9_ends 9 = .ok (.iload_n 1, 1) := by decide +kernel
theorem dX9_ends_10 : decode cX9_ends 10 = .ok (.iaload, 1) := by decide +kernel
theorem dX9_ends_11 : decode cX9_ends 11 = .ok (.if_icmp .ge 43, 3) := by decide +kernel
theorem dX9_ends_14 : decode cX9_ends 14 = .ok (.aload_n 0, 1) := by decide +kernel
theorem dX9_ends_15 : decode cX9_ends 15 = .ok (.getfield 84, 3) := by decide +kernel
theorem dX9_ends_18 : decode cX9_ends 18 = .ok (.bipush 16, 2) := by decide +kernel
theorem dX9_ends_20 : decode cX9_ends 20 = .ok (.iload_n 1, 1) := by decide +kernel
theorem dX9_ends_21 : decode cX9_ends 21 = .ok (.imul, 1) := by decide +kernel
theorem dX9_ends_22 : decode cX9_ends 22 = .ok (.iload 4, 2) := by decide +kernel
theorem dX9_ends_24 : decode cX9_ends 24 = .ok (.iadd, 1) := by decide +kernel
theorem dX9_ends_25 : decode cX9_ends 25 = .ok (.laload, 1) := by decide +kernel
theorem dX9_ends_26 : decode cX9_ends 26 = .ok (.lload_n 2, 1) := by decide +kernel
theorem dX9_ends_27 : decode cX9_ends 27 = .ok (.lcmp, 1) := by decide +kernel
theorem dX9_ends_28 : decode cX9_ends 28 = .ok (.ifCond .ne 20, 3) := by decide +kernel
theorem dX9_ends_31 : decode cX9_ends 31 = .ok (.aload_n 0, 1) := by decide +kernel
theorem dX9_ends_32 : decode cX9_ends 32 = .ok (.getfield 87, 3) := by decide +kernel
theorem dX9_ends_35 : decode cX9_ends 35 = .ok (.bipush 16, 2) := by decide +kernel
theorem dX9_ends_37 : decode cX9_ends 37 = .ok (.iload_n 1, 1) := by decide +kernel
theorem dX9_ends_38 : decode cX9_ends 38 = .ok (.imul, 1) := by decide +kernel
theorem dX9_ends_39 : decode cX9_ends 39 = .ok (.iload 4, 2) := by decide +kernel
theorem dX9_ends_41 : decode cX9_ends 41 = .ok (.iadd, 1) := by decide +kernel
theorem dX9_ends_42 : decode cX9_ends 42 = .ok (.dup2, 1) := by decide +kernel
theorem dX9_ends_43 : decode cX9_ends 43 = .ok (.laload, 1) := by decide +kernel
theorem dX9_ends_44 : decode cX9_ends 44 = .ok (.lconst 1, 1) := by decide +kernel
theorem dX9_ends_45 : decode cX9_ends 45 = .ok (.ladd, 1) := by decide +kernel
theorem dX9_ends_46 : decode cX9_ends 46 = .ok (.lastore, 1) := by decide +kernel
theorem dX9_ends_47 : decode cX9_ends 47 = .ok (.return_, 1) := by decide +kernel
theorem dX9_ends_48 : decode cX9_ends 48 = .ok (.iinc 4 1, 3) := by decide +kernel
theorem dX9_ends_51 : decode cX9_ends 51 = .ok (.goto (-48), 3) := by decide +kernel
theorem dX9_ends_54 : decode cX9_ends 54 = .ok (.aload_n 0, 1) := by decide +kernel
theorem dX9_ends_55 : decode cX9_ends 55 = .ok (.getfield 81, 3) := by decide +kernel
theorem dX9_ends_58 : decode cX9_ends 58 = .ok (.iload_n 1, 1) := by decide +kernel
theorem dX9_ends_59 : decode cX9_ends 59 = .ok (.iaload, 1) := by decide +kernel
theorem dX9_ends_60 : decode cX9_ends 60 = .ok (.bipush 16, 2) := by decide +kernel
theorem dX9_ends_62 : decode cX9_ends 62 = .ok (.if_icmp .ne 14, 3) := by decide +kernel
theorem dX9_ends_65 : decode cX9_ends 65 = .ok (.aload_n 0, 1) := by decide +kernel
theorem dX9_ends_66 : decode cX9_ends 66 = .ok (.getfield 69, 3) := by decide +kernel
theorem dX9_ends_69 : decode cX9_ends 69 = .ok (.iload_n 1, 1) := by decide +kernel
theorem dX9_ends_70 : decode cX9_ends 70 = .ok (.dup2, 1) := by decide +kernel
theorem dX9_ends_71 : decode cX9_ends 71 = .ok (.laload, 1) := by decide +kernel
theorem dX9_ends_72 : decode cX9_ends 72 = .ok (.lconst 1, 1) := by decide +kernel
theorem dX9_ends_73 : decode cX9_ends 73 = .ok (.ladd, 1) := by decide +kernel
theorem dX9_ends_74 : decode cX9_ends 74 = .ok (.lastore, 1) := by decide +kernel
theorem dX9_ends_75 : decode cX9_ends 75 = .ok (.return_, 1) := by decide +kernel
theorem dX9_ends_76 : decode cX9_ends 76 = .ok (.aload_n 0, 1) := by decide +kernel
theorem dX9_ends_77 : decode cX9_ends 77 = .ok (.getfield 84, 3) := by decide +kernel
theorem dX9_ends_80 : decode cX9_ends 80 = .ok (.bipush 16, 2) := by decide +kernel
theorem dX9_ends_82 : decode cX9_ends 82 = .ok (.iload_n 1, 1) := by decide +kernel
theorem dX9_ends_83 : decode cX9_ends 83 = .ok (.imul, 1) := by decide +kernel
theorem dX9_ends_84 : decode cX9_ends 84 = .ok (.aload_n 0, 1) := by decide +kernel
theorem dX9_ends_85 : decode cX9_ends 85 = .ok (.getfield 81, 3) := by decide +kernel
theorem dX9_ends_88 : decode cX9_ends 88 = .ok (.iload_n 1, 1) := by decide +kernel
theorem dX9_ends_89 : decode cX9_ends 89 = .ok (.iaload, 1) := by decide +kernel
theorem dX9_ends_90 : decode cX9_ends 90 = .ok (.iadd, 1) := by decide +kernel
theorem dX9_ends_91 : decode cX9_ends 91 = .ok (.lload_n 2, 1) := by decide +kernel
theorem dX9_ends_92 : decode cX9_ends 92 = .ok (.lastore, 1) := by decide +kernel
theorem dX9_ends_93 : decode cX9_ends 93 = .ok (.aload_n 0, 1) := by decide +kernel
theorem dX9_ends_94 : decode cX9_ends 94 = .ok (.getfield 87, 3) := by decide +kernel
theorem dX9_ends_97 : decode cX9_ends 97 = .ok (.bipush 16, 2) := by decide +kernel
theorem dX9_ends_99 : decode cX9_ends 99 = .ok (.iload_n 1, 1) := by decide +kernel
theorem dX9_ends_100 : decode cX9_ends 100 = .ok (.imul, 1) := by decide +kernel
theorem dX9_ends_101 : decode cX9_ends 101 = .ok (.aload_n 0, 1) := by decide +kernel
theorem dX9_ends_102 : decode cX9_ends 102 = .ok (.getfield 81, 3) := by decide +kernel
theorem dX9_ends_105 : decode cX9_ends 105 = .ok (.iload_n 1, 1) := by decide +kernel
theorem dX9_ends_106 : decode cX9_ends 106 = .ok (.iaload, 1) := by decide +kernel
theorem dX9_ends_107 : decode cX9_ends 107 = .ok (.iadd, 1) := by decide +kernel
theorem dX9_ends_108 : decode cX9_ends 108 = .ok (.lconst 1, 1) := by decide +kernel
theorem dX9_ends_109 : decode cX9_ends 109 = .ok (.lastore, 1) := by decide +kernel
theorem dX9_ends_110 : decode cX9_ends 110 = .ok (.aload_n 0, 1) := by decide +kernel
theorem dX9_ends_111 : decode cX9_ends 111 = .ok (.getfield 81, 3) := by decide +kernel
theorem dX9_ends_114 : decode cX9_ends 114 = .ok (.iload_n 1, 1) := by decide +kernel
theorem dX9_ends_115 : decode cX9_ends 115 = .ok (.dup2, 1) := by decide +kernel
theorem dX9_ends_116 : decode cX9_ends 116 = .ok (.iaload, 1) := by decide +kernel
theorem dX9_ends_117 : decode cX9_ends 117 = .ok (.iconst 1, 1) := by decide +kernel
theorem dX9_ends_118 : decode cX9_ends 118 = .ok (.iadd, 1) := by decide +kernel
theorem dX9_ends_119 : decode cX9_ends 119 = .ok (.iastore, 1) := by decide +kernel
theorem dX9_ends_120 : decode cX9_ends 120 = .ok (.return_, 1) := by decide +kernel
def L_X9_ends_3 (b1 : Int32) (b2 : Int64) (k : Hp → Option (Unit × Hp)) : Nat → Int32 → Hp → Option (Unit × Hp)
  | 0, _, _ => none
  | n + 1, x4, H => gd b1 8 (if (gI H 0 24 (Int32.toNatClampNeg b1)) ≤ x4 then k H else gd ((16 * b1) + x4) 128 (if (lg_cmp (gJ H 0 25 (Int32.toNatClampNeg ((16 * b1) + x4))) b2) = 0 then gd ((16 * b1) + x4) 128 (gd ((16 * b1) + x4) 128 (hl (sJ H 0 26 (Int32.toNatClampNeg ((16 * b1) + x4)) ((gJ H 0 26 (Int32.toNatClampNeg ((16 * b1) + x4))) + 1)) (fun (H4 : Hp) => some ((), H4)))) else vl (x4 + (1 : Int32)) (fun (v3 : Int32) => L_X9_ends_3 b1 b2 k n v3 H)))
set_option maxRecDepth 100000 in
set_option maxHeartbeats 4000000 in
theorem sL_X9_ends_3 {p : Program} {l : Launch} {e : Env} {s : State} {m : MethodId} {args : Array Value} {below : List Frame} {meth : Method} {c : Code} {A : Nat → Prop} {D : va_G} {K4 : kQ} {ad : Nat → Nat → Nat} {nr : Nat} {b1 : Int32} {b2 : Int64} {k : Hp → Option (Unit × Hp)} {res : Unit × Hp} (hC : Cx p s m args c A s.heap D K4 5 RX9 cX9_ends) (hret : meth.sig.returnType = none ∧ meth.locks = false) (hk : ∀ (H : Hp), k H = some res → V p l e ({ frames := 0, cells := 0, slots := 0, locals := 0 }) s m args below meth c A s.heap (QU below args s A D K4 ad nr res) D K4 ad nr 5 54 [(0, .ref (ad 0 0)), (1, .int b1), (2, .long b2)] [] H) : ∀ (n : Nat) (x4 : Int32) (H : Hp), L_X9_ends_3 b1 b2 k n x4 H = some res → V p l e ({ frames := 0, cells := 0, slots := 0, locals := 0 }) s m args below meth c A s.heap (QU below args s A D K4 ad nr res) D K4 ad nr 5 3 [(0, .ref (ad 0 0)), (1, .int b1), (2, .long b2), (4, .int x4)] [] H := by
  intro n
  induction n with
  | zero => intro x4 H h; exact nomatch (show (none : Option (Unit × Hp)) = some res from h)
  | succ n ih =>
    intro x4 H h
    rw [L_X9_ends_3] at h
    refine V_iload hC 3 dX9_ends_3 rfl ?_
    refine V_aload_n hC 0 dX9_ends_5 rfl ?_
    refine V_getR (g := 0) (k := 0) (g' := 0) (k' := 24) hC 9 24 fl_X9_81 rfl rfl rfl rfl dX9_ends_6 ?_
    refine V_iload_n hC 1 dX9_ends_9 rfl ?_
    obtain ⟨hi, h⟩ := gd_some h
    refine V_iald (g := 0) (k := 24) hC rfl rfl hi dX9_ends_10 ?_
    refine V_icmp_ge (tgt := 54) hC dX9_ends_11 (by decide) (fun c1 => ?_) (fun c1 => ?_)
    · have h := it_pos c1 h
      refine V_lv (lv' := [(0, .ref (ad 0 0)), (1, .int b1), (2, .long b2)]) [0, 1, 2] rfl ?_
      exact hk H h
    · have h := it_neg c1 h
      refine V_aload_n hC 0 dX9_ends_14 rfl ?_
      refine V_getR (g := 0) (k := 0) (g' := 0) (k' := 25) hC 9 25 fl_X9_84 rfl rfl rfl rfl dX9_ends_15 ?_
      refine V_bipush (v := 16) hC dX9_ends_18 (by decide) ?_
      refine V_iload_n hC 1 dX9_ends_20 rfl ?_
      refine V_imul hC dX9_ends_21 ?_
      refine V_iload hC 3 dX9_ends_22 rfl ?_
      refine V_iadd hC dX9_ends_24 ?_
      obtain ⟨hi, h⟩ := gd_some h
      refine V_lald (g := 0) (k := 25) hC rfl rfl hi dX9_ends_25 ?_
      refine V_lload_n hC 2 dX9_ends_26 rfl ?_
      refine V_lcmp hC dX9_ends_27 ?_
      refine V_if_ne (tgt := 48) hC dX9_ends_28 (by decide) (fun c2 => ?_) (fun c2 => ?_)
      · have h := it_neg c2 h
        refine V_vi h (fun v3 hvv3 h => ?_)
        refine V_iinc (v := v3) (lv' := [(4, .int v3), (0, .ref (ad 0 0)), (1, .int b1), (2, .long b2)]) hC 3 dX9_ends_48 rfl hvv3.symm (Nat.le_of_ble_eq_true rfl) rfl ?_
        refine V_goto (tgt := 3) hC dX9_ends_51 (by decide) ?_
        refine V_lv (lv' := [(0, .ref (ad 0 0)), (1, .int b1), (2, .long b2), (4, .int v3)]) [1, 2, 3, 0] rfl ?_
        exact ih v3 H h
      · have h := it_pos c2 h
        refine V_aload_n hC 0 dX9_ends_31 rfl ?_
        refine V_getR (g := 0) (k := 0) (g' := 0) (k' := 26) hC 9 26 fl_X9_87 rfl rfl rfl rfl dX9_ends_32 ?_
        refine V_bipush (v := 16) hC dX9_ends_35 (by decide) ?_
        refine V_iload_n hC 1 dX9_ends_37 rfl ?_
        refine V_imul hC dX9_ends_38 ?_
        refine V_iload hC 3 dX9_ends_39 rfl ?_
        refine V_iadd hC dX9_ends_41 ?_
        refine V_dup2 hC dX9_ends_42 rfl rfl ?_
        obtain ⟨hi, h⟩ := gd_some h
        refine V_lald (g := 0) (k := 26) hC rfl rfl hi dX9_ends_43 ?_
        refine V_lconst (v := 1) hC dX9_ends_44 (by decide) ?_
        refine V_ladd hC dX9_ends_45 ?_
        obtain ⟨hi, h⟩ := gd_some h
        refine V_last (g := 0) (k := 26) hC rfl rfl hi dX9_ends_46 ?_
        refine V_hl h (fun H4 h => ?_)
        exact V_vret hC hret dX9_ends_47 h
def f_X9_ends (a1 : Int32) (a2 : Int64) (H : Hp) : Option (Unit × Hp) := L_X9_ends_3 a1 a2 (fun (H5 : Hp) => gd a1 8 (if (gI H5 0 24 (Int32.toNatClampNeg a1)) = 16 then gd a1 8 (gd a1 8 (hl (sJ H5 0 20 (Int32.toNatClampNeg a1) ((gJ H5 0 20 (Int32.toNatClampNeg a1)) + 1)) (fun (H10 : Hp) => some ((), H10)))) else gd a1 8 (gd ((16 * a1) + (gI H5 0 24 (Int32.toNatClampNeg a1))) 128 (hl (sJ H5 0 25 (Int32.toNatClampNeg ((16 * a1) + (gI H5 0 24 (Int32.toNatClampNeg a1)))) a2) (fun (H7 : Hp) => gd a1 8 (gd ((16 * a1) + (gI H7 0 24 (Int32.toNatClampNeg a1))) 128 (hl (sJ H7 0 26 (Int32.toNatClampNeg ((16 * a1) + (gI H7 0 24 (Int32.toNatClampNeg a1)))) 1) (fun (H8 : Hp) => gd a1 8 (gd a1 8 (hl (sI H8 0 24 (Int32.toNatClampNeg a1) ((gI H8 0 24 (Int32.toNatClampNeg a1)) + 1)) (fun (H9 : Hp) => some ((), H9)))))))))))) FU 0 H
set_option maxRecDepth 100000 in
set_option maxHeartbeats 4000000 in
theorem s_X9_ends {p : Program} {l : Launch} {e : Env} {s : State} {m : MethodId} {args : Array Value} {below : List Frame} {meth : Method} {c : Code} {A : Nat → Prop} {D : va_G} {K4 : kQ} {ad : Nat → Nat → Nat} {nr : Nat} {a1 : Int32} {a2 : Int64} {H : Hp} {res : Unit × Hp} (hC : Cx p s m args c A s.heap D K4 5 RX9 cX9_ends) (hret : meth.sig.returnType = none ∧ meth.locks = false) (h : f_X9_ends a1 a2 H = some res) : V p l e ({ frames := 0, cells := 0, slots := 0, locals := 0 }) s m args below meth c A s.heap (QU below args s A D K4 ad nr res) D K4 ad nr 5 0 [(0, .ref (ad 0 0)), (1, .int a1), (2, .long a2)] [] H := by
  unfold f_X9_ends at h
  refine V_iconst (v := 0) hC dX9_ends_0 (by decide) ?_
  refine V_istore (lv' := [(4, .int 0), (0, .ref (ad 0 0)), (1, .int a1), (2, .long a2)]) hC dX9_ends_1 (Nat.le_of_ble_eq_true rfl) rfl ?_
  refine V_lv (lv' := [(0, .ref (ad 0 0)), (1, .int a1), (2, .long a2), (4, .int 0)]) [1, 2, 3, 0] rfl ?_
  refine sL_X9_ends_3 hC hret (fun H5 h => ?_) _ 0 H h
  refine V_aload_n hC 0 dX9_ends_54 rfl ?_
  refine V_getR (g := 0) (k := 0) (g' := 0) (k' := 24) hC 9 24 fl_X9_81 rfl rfl rfl rfl dX9_ends_55 ?_
  refine V_iload_n hC 1 dX9_ends_58 rfl ?_
  obtain ⟨hi, h⟩ := gd_some h
  refine V_iald (g := 0) (k := 24) hC rfl rfl hi dX9_ends_59 ?_
  refine V_bipush (v := 16) hC dX9_ends_60 (by decide) ?_
  refine V_icmp_ne (tgt := 76) hC dX9_ends_62 (by decide) (fun c6 => ?_) (fun c6 => ?_)
  · have h := it_neg c6 h
    refine V_aload_n hC 0 dX9_ends_76 rfl ?_
    refine V_getR (g := 0) (k := 0) (g' := 0) (k' := 25) hC 9 25 fl_X9_84 rfl rfl rfl rfl dX9_ends_77 ?_
    refine V_bipush (v := 16) hC dX9_ends_80 (by decide) ?_
    refine V_iload_n hC 1 dX9_ends_82 rfl ?_
    refine V_imul hC dX9_ends_83 ?_
    refine V_aload_n hC 0 dX9_ends_84 rfl ?_
    refine V_getR (g := 0) (k := 0) (g' := 0) (k' := 24) hC 9 24 fl_X9_81 rfl rfl rfl rfl dX9_ends_85 ?_
    refine V_iload_n hC 1 dX9_ends_88 rfl ?_
    obtain ⟨hi, h⟩ := gd_some h
    refine V_iald (g := 0) (k := 24) hC rfl rfl hi dX9_ends_89 ?_
    refine V_iadd hC dX9_ends_90 ?_
    refine V_lload_n hC 2 dX9_ends_91 rfl ?_
    obtain ⟨hi, h⟩ := gd_some h
    refine V_last (g := 0) (k := 25) hC rfl rfl hi dX9_ends_92 ?_
    refine V_hl h (fun H7 h => ?_)
    refine V_aload_n hC 0 dX9_ends_93 rfl ?_
    refine V_getR (g := 0) (k := 0) (g' := 0) (k' := 26) hC 9 26 fl_X9_87 rfl rfl rfl rfl dX9_ends_94 ?_
    refine V_bipush (v := 16) hC dX9_ends_97 (by decide) ?_
    refine V_iload_n hC 1 dX9_ends_99 rfl ?_
    refine V_imul hC dX9_ends_100 ?_
    refine V_aload_n hC 0 dX9_ends_101 rfl ?_
    refine V_getR (g := 0) (k := 0) (g' := 0) (k' := 24) hC 9 24 fl_X9_81 rfl rfl rfl rfl dX9_ends_102 ?_
    refine V_iload_n hC 1 dX9_ends_105 rfl ?_
    obtain ⟨hi, h⟩ := gd_some h
    refine V_iald (g := 0) (k := 24) hC rfl rfl hi dX9_ends_106 ?_
    refine V_iadd hC dX9_ends_107 ?_
    refine V_lconst (v := 1) hC dX9_ends_108 (by decide) ?_
    obtain ⟨hi, h⟩ := gd_some h
    refine V_last (g := 0) (k := 26) hC rfl rfl hi dX9_ends_109 ?_
    refine V_hl h (fun H8 h => ?_)
    refine V_aload_n hC 0 dX9_ends_110 rfl ?_
    refine V_getR (g := 0) (k := 0) (g' := 0) (k' := 24) hC 9 24 fl_X9_81 rfl rfl rfl rfl dX9_ends_111 ?_
    refine V_iload_n hC 1 dX9_ends_114 rfl ?_
    refine V_dup2 hC dX9_ends_115 rfl rfl ?_
    obtain ⟨hi, h⟩ := gd_some h
    refine V_iald (g := 0) (k := 24) hC rfl rfl hi dX9_ends_116 ?_
    refine V_iconst (v := 1) hC dX9_ends_117 (by decide) ?_
    refine V_iadd hC dX9_ends_118 ?_
    obtain ⟨hi, h⟩ := gd_some h
    refine V_iast (g := 0) (k := 24) hC rfl rfl hi dX9_ends_119 ?_
    refine V_hl h (fun H9 h => ?_)
    exact V_vret hC hret dX9_ends_120 h
  · have h := it_pos c6 h
    refine V_aload_n hC 0 dX9_ends_65 rfl ?_
    refine V_getR (g := 0) (k := 0) (g' := 0) (k' := 20) hC 9 20 fl_X9_69 rfl rfl rfl rfl dX9_ends_66 ?_
    refine V_iload_n hC 1 dX9_ends_69 rfl ?_
    refine V_dup2 hC dX9_ends_70 rfl rfl ?_
    obtain ⟨hi, h⟩ := gd_some h
    refine V_lald (g := 0) (k := 20) hC rfl rfl hi dX9_ends_71 ?_
    refine V_lconst (v := 1) hC dX9_ends_72 (by decide) ?_
    refine V_ladd hC dX9_ends_73 ?_
    obtain ⟨hi, h⟩ := gd_some h
    refine V_last (g := 0) (k := 20) hC rfl rfl hi dX9_ends_74 ?_
    refine V_hl h (fun H10 h => ?_)
    exact V_vret hC hret dX9_ends_75 h
theorem c_X9_ends (l : Launch) {nr : Nat} {a1 : Int32} {a2 : Int64} {H : Hp} {x : Unit} {H' : Hp} (h : f_X9_ends a1 a2 H = some (x, H')) : CU l nr yX9_ends cX9_ends 5 none 0 0 (fun ad => [.ref (ad 0 0), .int a1, .long a2]) H x H' := by
  intro D K4 ad sz
  refine Met.ofV (by decide) (Nat.le_of_ble_eq_true rfl) ?_
  intro p e s m args below meth c hC hret hsz
  subst hsz
  exact s_X9_ends hC hret h
theorem dX9_comes_0 : decode cX9_comes 0 = .ok (.aload_n 0, 1) := by decide +kernel
theorem dX9_comes_1 : decode cX9_comes 1 = .ok (.getfield 90, 3) := by decide +kernel
theorem dX9_comes_4 : decode cX9_comes 4 = .ok (.aload_n 0, 1) := by decide +kernel
theorem dX9_comes_5 : decode cX9_comes 5 = .ok (.getfield 211, 3) := by decide +kernel
theorem dX9_comes_8 : decode cX9_comes 8 = .ok (.iload_n 1, 1) := by decide +kernel
theorem dX9_comes_9 : decode cX9_comes 9 = .ok (.iastore, 1) := by decide +kernel
theorem dX9_comes_10 : decode cX9_comes 10 = .ok (.aload_n 0, 1) := by decide +kernel
theorem dX9_comes_11 : decode cX9_comes 11 = .ok (.getfield 93, 3) := by decide +kernel
theorem dX9_comes_14 : decode cX9_comes 14 = .ok (.aload_n 0, 1) := by decide +kernel
theorem dX9_comes_15 : decode cX9_comes 15 = .ok (.getfield 211, 3) := by decide +kernel
theorem dX9_comes_18 : decode cX9_comes 18 = .ok (.iconst 0, 1) := by decide +kernel
theorem dX9_comes_19 : decode cX9_comes 19 = .ok (.iastore, 1) := by decide +kernel
theorem dX9_comes_20 : decode cX9_comes 20 = .ok (.aload_n 0, 1) := by decide +kernel
theorem dX9_comes_21 : decode cX9_comes 21 = .ok (.getfield 96, 3) := by decide +kernel
theorem dX9_comes_24 : decode cX9_comes 24 = .ok (.aload_n 0, 1) := by decide +kernel
theorem dX9_comes_25 : decode cX9_comes 25 = .ok (.getfield 211, 3) := by decide +kernel
theorem dX9_comes_28 : decode cX9_comes 28 = .ok (.lconst 0, 1) := by decide +kernel
theorem dX9_comes_29 : decode cX9_comes 29 = .ok (.lastore, 1) := by decide +kernel
theorem dX9_comes_30 : decode cX9_comes 30 = .ok (.aload_n 0, 1) := by decide +kernel
theorem dX9_comes_31 : decode cX9_comes 31 = .ok (.dup, 1) := by decide +kernel
theorem dX9_comes_32 : decode cX9_comes 32 = .ok (.getfield 211, 3) := by decide +kernel
theorem dX9_comes_35 : decode cX9_comes 35 = .ok (.iconst 1, 1) := by decide +kernel
theorem dX9_comes_36 : decode cX9_comes 36 = .ok (.iadd, 1) := by decide +kernel
theorem dX9_comes_37 : decode cX9_comes 37 = .ok (.putfield 211, 3) := by decide +kernel
theorem dX9_comes_40 : decode cX9_comes 40 = .ok (.aload_n 0, 1) := by decide +kernel
theorem dX9_comes_41 : decode cX9_comes 41 = .ok (.getfield 66, 3) := by decide +kernel
theorem dX9_comes_44 : decode cX9_comes 44 = .ok (.iload_n 1, 1) := by decide +kernel
theorem dX9_comes_45 : decode cX9_comes 45 = .ok (.dup2, 1) := by decide +kernel
theorem dX9_comes_46 : decode cX9_comes 46 = .ok (.laload, 1) := by decide +kernel
theorem dX9_comes_47 : decode cX9_comes 47 = .ok (.lconst 1, 1) := by decide +kernel
theorem dX9_comes_48 : decode cX9_comes 48 = .ok (.ladd, 1) := by decide +kernel
theorem dX9_comes_49 : decode cX9_comes 49 = .ok (.lastore, 1) := by decide +kernel
theorem dX9_comes_50 : decode cX9_comes 50 = .ok (.return_, 1) := by decide +kernel
def f_X9_comes (a1 : Int32) (H : Hp) : Option (Unit × Hp) := gd (gI H 0 0 28) 30 (hl (sI H 0 31 (Int32.toNatClampNeg (gI H 0 0 28)) a1) (fun (H1 : Hp) => gd (gI H1 0 0 28) 30 (hl (sI H1 0 32 (Int32.toNatClampNeg (gI H1 0 0 28)) 0) (fun (H2 : Hp) => gd (gI H2 0 0 28) 30 (hl (sJ H2 0 33 (Int32.toNatClampNeg (gI H2 0 0 28)) 0) (fun (H3 : Hp) => hl (sI H3 0 0 28 ((gI H3 0 0 28) + 1)) (fun (H4 : Hp) => gd a1 8 (gd a1 8 (hl (sJ H4 0 19 (Int32.toNatClampNeg a1) ((gJ H4 0 19 (Int32.toNatClampNeg a1)) + 1)) (fun (H5 : Hp) => some ((), H5)))))))))))
set_option maxRecDepth 100000 in
set_option maxHeartbeats 4000000 in
theorem s_X9_comes {p : Program} {l : Launch} {e : Env} {s : State} {m : MethodId} {args : Array Value} {below : List Frame} {meth : Method} {c : Code} {A : Nat → Prop} {D : va_G} {K4 : kQ} {ad : Nat → Nat → Nat} {nr : Nat} {a1 : Int32} {H : Hp} {res : Unit × Hp} (hC : Cx p s m args c A s.heap D K4 2 RX9 cX9_comes) (hret : meth.sig.returnType = none ∧ meth.locks = false) (h : f_X9_comes a1 H = some res) : V p l e ({ frames := 0, cells := 0, slots := 0, locals := 0 }) s m args below meth c A s.heap (QU below args s A D K4 ad nr res) D K4 ad nr 2 0 [(0, .ref (ad 0 0)), (1, .int a1)] [] H := by
  unfold f_X9_comes at h
  refine V_aload_n hC 0 dX9_comes_0 rfl ?_
  refine V_getR (g := 0) (k := 0) (g' := 0) (k' := 31) hC 9 31 fl_X9_90 rfl rfl rfl rfl dX9_comes_1 ?_
  refine V_aload_n hC 0 dX9_comes_4 rfl ?_
  refine V_getI (g := 0) (k := 0) hC 9 28 fl_X9_211 rfl rfl rfl dX9_comes_5 ?_
  refine V_iload_n hC 1 dX9_comes_8 rfl ?_
  obtain ⟨hi, h⟩ := gd_some h
  refine V_iast (g := 0) (k := 31) hC rfl rfl hi dX9_comes_9 ?_
  refine V_hl h (fun H1 h => ?_)
  refine V_aload_n hC 0 dX9_comes_10 rfl ?_
  refine V_getR (g := 0) (k := 0) (g' := 0) (k' := 32) hC 9 32 fl_X9_93 rfl rfl rfl rfl dX9_comes_11 ?_
  refine V_aload_n hC 0 dX9_comes_14 rfl ?_
  refine V_getI (g := 0) (k := 0) hC 9 28 fl_X9_211 rfl rfl rfl dX9_comes_15 ?_
  refine V_iconst (v := 0) hC dX9_comes_18 (by decide) ?_
  obtain ⟨hi, h⟩ := gd_some h
  refine V_iast (g := 0) (k := 32) hC rfl rfl hi dX9_comes_19 ?_
  refine V_hl h (fun H2 h => ?_)
  refine V_aload_n hC 0 dX9_comes_20 rfl ?_
  refine V_getR (g := 0) (k := 0) (g' := 0) (k' := 33) hC 9 33 fl_X9_96 rfl rfl rfl rfl dX9_comes_21 ?_
  refine V_aload_n hC 0 dX9_comes_24 rfl ?_
  refine V_getI (g := 0) (k := 0) hC 9 28 fl_X9_211 rfl rfl rfl dX9_comes_25 ?_
  refine V_lconst (v := 0) hC dX9_comes_28 (by decide) ?_
  obtain ⟨hi, h⟩ := gd_some h
  refine V_last (g := 0) (k := 33) hC rfl rfl hi dX9_comes_29 ?_
  refine V_hl h (fun H3 h => ?_)
  refine V_aload_n hC 0 dX9_comes_30 rfl ?_
  refine V_dup hC dX9_comes_31 rfl ?_
  refine V_getI (g := 0) (k := 0) hC 9 28 fl_X9_211 rfl rfl rfl dX9_comes_32 ?_
  refine V_iconst (v := 1) hC dX9_comes_35 (by decide) ?_
  refine V_iadd hC dX9_comes_36 ?_
  refine V_putI (g := 0) (k := 0) hC 9 28 .int fw_X9_211 rfl rfl rfl rfl rfl dX9_comes_37 ?_
  refine V_hl h (fun H4 h => ?_)
  refine V_aload_n hC 0 dX9_comes_40 rfl ?_
  refine V_getR (g := 0) (k := 0) (g' := 0) (k' := 19) hC 9 19 fl_X9_66 rfl rfl rfl rfl dX9_comes_41 ?_
  refine V_iload_n hC 1 dX9_comes_44 rfl ?_
  refine V_dup2 hC dX9_comes_45 rfl rfl ?_
  obtain ⟨hi, h⟩ := gd_some h
  refine V_lald (g := 0) (k := 19) hC rfl rfl hi dX9_comes_46 ?_
  refine V_lconst (v := 1) hC dX9_comes_47 (by decide) ?_
  refine V_ladd hC dX9_comes_48 ?_
  obtain ⟨hi, h⟩ := gd_some h
  refine V_last (g := 0) (k := 19) hC rfl rfl hi dX9_comes_49 ?_
  refine V_hl h (fun H5 h => ?_)
  exact V_vret hC hret dX9_comes_50 h
theorem c_X9_comes (l : Launch) {nr : Nat} {a1 : Int32} {H : Hp} {x : Unit} {H' : Hp} (h : f_X9_comes a1 H = some (x, H')) : CU l nr yX9_comes cX9_comes 2 none 0 0 (fun ad => [.ref (ad 0 0), .int a1]) H x H' := by
  intro D K4 ad sz
  refine Met.ofV (by decide) (Nat.le_of_ble_eq_true rfl) ?_
  intro p e s m args below meth c hC hret hsz
  subst hsz
  exact s_X9_comes hC hret h
theorem dX9_allGo_0 : decode cX9_allGo 0 = .ok (.iconst 0, 1) := by decide +kernel
theorem dX9_allGo_1 : decode cX9_allGo 1 = .ok (.istore_n 1, 1) := by decide +kernel
theorem dX9_allGo_2 : decode cX9_allGo 2 = .ok (.iload_n 1, 1) := by decide +kernel
theorem dX9_allGo_3 : decode cX9_allGo 3 = .ok (.aload_n 0, 1) := by decide +kernel
theorem dX9_allGo_4 : decode cX9_allGo 4 = .ok (.getfield 211, 3) := by decide +kernel
theorem dX9_allGo_7 : decode cX9_allGo 7 = .ok (.if_icmp .ge 34, 3) := by decide +kernel
theorem dX9_allGo_10 : decode cX9_allGo 10 = .ok (.aload_n 0, 1) := by decide +kernel
theorem dX9_allGo_11 : decode cX9_allGo 11 = .ok (.getfield 72, 3) := by decide +kernel
theorem dX9_allGo_14 : decode cX9_allGo 14 = .ok (.bipush 20, 2) := by decide +kernel
theorem dX9_allGo_16 : decode cX9_allGo 16 = .ok (.aload_n 0, 1) := by decide +kernel
theorem dX9_allGo_17 : decode cX9_allGo 17 = .ok (.getfield 90, 3) := by decide +kernel
theorem dX9_allGo_20 : decode cX9_allGo 20 = .ok (.iload_n 1, 1) := by decide +kernel
theorem dX9_allGo_21 : decode cX9_allGo 21 = .ok (.iaload, 1) := by decide +kernel
theorem dX9_allGo_22 : decode cX9_allGo 22 = .ok (.imul, 1) := by decide +kernel
theorem dX9_allGo_23 : decode cX9_allGo 23 = .ok (.aload_n 0, 1) := by decide +kernel
theorem dX9_allGo_24 : decode cX9_allGo 24 = .ok (.getfield 93, 3) := by decide +kernel
theorem dX9_allGo_27 : decode cX9_allGo 27 = .ok (.iload_n 1, 1) := by decide +kernel
theorem dX9_allGo_28 : decode cX9_allGo 28 = .ok (.iaload, 1) := by decide +kernel
theorem dX9_allGo_29 : decode cX9_allGo 29 = .ok (.iadd, 1) := by decide +kernel
theorem dX9_allGo_30 : decode cX9_allGo 30 = .ok (.dup2, 1) := by decide +kernel
theorem dX9_allGo_31 : decode cX9_allGo 31 = .ok (.laload, 1) := by decide +kernel
theorem dX9_allGo_32 : decode cX9_allGo 32 = .ok (.lconst 1, 1) := by decide +kernel
theorem dX9_allGo_33 : decode cX9_allGo 33 = .ok (.ladd, 1) := by decide +kernel
theorem dX9_allGo_34 : decode cX9_allGo 34 = .ok (.lastore, 1) := by decide +kernel
theorem dX9_allGo_35 : decode cX9_allGo 35 = .ok (.iinc 1 1, 3) := by decide +kernel
theorem dX9_allGo_38 : decode cX9_allGo 38 = .ok (.goto (-36), 3) := by decide +kernel
theorem dX9_allGo_41 : decode cX9_allGo 41 = .ok (.aload_n 0, 1) := by decide +kernel
theorem dX9_allGo_42 : decode cX9_allGo 42 = .ok (.iconst 0, 1) := by decide +kernel
theorem dX9_allGo_43 : decode cX9_allGo 43 = .ok (.putfield 211, 3) := by decide +kernel
theorem dX9_allGo_46 : decode cX9_allGo 46 = .ok (.return_, 1) := by decide +kernel
def L_X9_allGo_2 (k : Hp → Option (Unit × Hp)) : Nat → Int32 → Hp → Option (Unit × Hp)
  | 0, _, _ => none
  | n + 1, x1, H => if (gI H 0 0 28) ≤ x1 then k H else gd x1 30 (gd x1 30 (gd ((20 * (gI H 0 31 (Int32.toNatClampNeg x1))) + (gI H 0 32 (Int32.toNatClampNeg x1))) 160 (gd ((20 * (gI H 0 31 (Int32.toNatClampNeg x1))) + (gI H 0 32 (Int32.toNatClampNeg x1))) 160 (hl (sJ H 0 21 (Int32.toNatClampNeg ((20 * (gI H 0 31 (Int32.toNatClampNeg x1))) + (gI H 0 32 (Int32.toNatClampNeg x1)))) ((gJ H 0 21 (Int32.toNatClampNeg ((20 * (gI H 0 31 (Int32.toNatClampNeg x1))) + (gI H 0 32 (Int32.toNatClampNeg x1))))) + 1)) (fun (H2 : Hp) => vl (x1 + (1 : Int32)) (fun (v3 : Int32) => L_X9_allGo_2 k n v3 H2))))))
set_option maxRecDepth 100000 in
set_option maxHeartbeats 4000000 in
theorem sL_X9_allGo_2 {p : Program} {l : Launch} {e : Env} {s : State} {m : MethodId} {args : Array Value} {below : List Frame} {meth : Method} {c : Code} {A : Nat → Prop} {D : va_G} {K4 : kQ} {ad : Nat → Nat → Nat} {nr : Nat} {k : Hp → Option (Unit × Hp)} {res : Unit × Hp} (hC : Cx p s m args c A s.heap D K4 2 RX9 cX9_allGo) (hret : meth.sig.returnType = none ∧ meth.locks = false) (hk : ∀ (H : Hp), k H = some res → V p l e ({ frames := 0, cells := 0, slots := 0, locals := 0 }) s m args below meth c A s.heap (QU below args s A D K4 ad nr res) D K4 ad nr 2 41 [(0, .ref (ad 0 0))] [] H) : ∀ (n : Nat) (x1 : Int32) (H : Hp), L_X9_allGo_2 k n x1 H = some res → V p l e ({ frames := 0, cells := 0, slots := 0, locals := 0 }) s m args below meth c A s.heap (QU below args s A D K4 ad nr res) D K4 ad nr 2 2 [(0, .ref (ad 0 0)), (1, .int x1)] [] H := by
  intro n
  induction n with
  | zero => intro x1 H h; exact nomatch (show (none : Option (Unit × Hp)) = some res from h)
  | succ n ih =>
    intro x1 H h
    rw [L_X9_allGo_2] at h
    refine V_iload_n hC 1 dX9_allGo_2 rfl ?_
    refine V_aload_n hC 0 dX9_allGo_3 rfl ?_
    refine V_getI (g := 0) (k := 0) hC 9 28 fl_X9_211 rfl rfl rfl dX9_allGo_4 ?_
    refine V_icmp_ge (tgt := 41) hC dX9_allGo_7 (by decide) (fun c1 => ?_) (fun c1 => ?_)
    · have h := it_pos c1 h
      refine V_lv (lv' := [(0, .ref (ad 0 0))]) [0] rfl ?_
      exact hk H h
    · have h := it_neg c1 h
      refine V_aload_n hC 0 dX9_allGo_10 rfl ?_
      refine V_getR (g := 0) (k := 0) (g' := 0) (k' := 21) hC 9 21 fl_X9_72 rfl rfl rfl rfl dX9_allGo_11 ?_
      refine V_bipush (v := 20) hC dX9_allGo_14 (by decide) ?_
      refine V_aload_n hC 0 dX9_allGo_16 rfl ?_
      refine V_getR (g := 0) (k := 0) (g' := 0) (k' := 31) hC 9 31 fl_X9_90 rfl rfl rfl rfl dX9_allGo_17 ?_
      refine V_iload_n hC 1 dX9_allGo_20 rfl ?_
      obtain ⟨hi, h⟩ := gd_some h
      refine V_iald (g := 0) (k := 31) hC rfl rfl hi dX9_allGo_21 ?_
      refine V_imul hC dX9_allGo_22 ?_
      refine V_aload_n hC 0 dX9_allGo_23 rfl ?_
      refine V_getR (g := 0) (k := 0) (g' := 0) (k' := 32) hC 9 32 fl_X9_93 rfl rfl rfl rfl dX9_allGo_24 ?_
      refine V_iload_n hC 1 dX9_allGo_27 rfl ?_
      obtain ⟨hi, h⟩ := gd_some h
      refine V_iald (g := 0) (k := 32) hC rfl rfl hi dX9_allGo_28 ?_
      refine V_iadd hC dX9_allGo_29 ?_
      refine V_dup2 hC dX9_allGo_30 rfl rfl ?_
      obtain ⟨hi, h⟩ := gd_some h
      refine V_lald (g := 0) (k := 21) hC rfl rfl hi dX9_allGo_31 ?_
      refine V_lconst (v := 1) hC dX9_allGo_32 (by decide) ?_
      refine V_ladd hC dX9_allGo_33 ?_
      obtain ⟨hi, h⟩ := gd_some h
      refine V_last (g := 0) (k := 21) hC rfl rfl hi dX9_allGo_34 ?_
      refine V_hl h (fun H2 h => ?_)
      refine V_vi h (fun v3 hvv3 h => ?_)
      refine V_iinc (v := v3) (lv' := [(1, .int v3), (0, .ref (ad 0 0))]) hC 1 dX9_allGo_35 rfl hvv3.symm (Nat.le_of_ble_eq_true rfl) rfl ?_
      refine V_goto (tgt := 2) hC dX9_allGo_38 (by decide) ?_
      refine V_lv (lv' := [(0, .ref (ad 0 0)), (1, .int v3)]) [1, 0] rfl ?_
      exact ih v3 H2 h
def f_X9_allGo (H : Hp) : Option (Unit × Hp) := L_X9_allGo_2 (fun (H4 : Hp) => hl (sI H4 0 0 28 0) (fun (H5 : Hp) => some ((), H5))) FU 0 H
set_option maxRecDepth 100000 in
set_option maxHeartbeats 4000000 in
theorem s_X9_allGo {p : Program} {l : Launch} {e : Env} {s : State} {m : MethodId} {args : Array Value} {below : List Frame} {meth : Method} {c : Code} {A : Nat → Prop} {D : va_G} {K4 : kQ} {ad : Nat → Nat → Nat} {nr : Nat} {H : Hp} {res : Unit × Hp} (hC : Cx p s m args c A s.heap D K4 2 RX9 cX9_allGo) (hret : meth.sig.returnType = none ∧ meth.locks = false) (h : f_X9_allGo H = some res) : V p l e ({ frames := 0, cells := 0, slots := 0, locals := 0 }) s m args below meth c A s.heap (QU below args s A D K4 ad nr res) D K4 ad nr 2 0 [(0, .ref (ad 0 0))] [] H := by
  unfold f_X9_allGo at h
  refine V_iconst (v := 0) hC dX9_allGo_0 (by decide) ?_
  refine V_istore_n (lv' := [(1, .int 0), (0, .ref (ad 0 0))]) hC dX9_allGo_1 (Nat.le_of_ble_eq_true rfl) rfl ?_
  refine V_lv (lv' := [(0, .ref (ad 0 0)), (1, .int 0)]) [1, 0] rfl ?_
  refine sL_X9_allGo_2 hC hret (fun H4 h => ?_) _ 0 H h
  refine V_aload_n hC 0 dX9_allGo_41 rfl ?_
  refine V_iconst (v := 0) hC dX9_allGo_42 (by decide) ?_
  refine V_putI (g := 0) (k := 0) hC 9 28 .int fw_X9_211 rfl rfl rfl rfl rfl dX9_allGo_43 ?_
  refine V_hl h (fun H5 h => ?_)
  exact V_vret hC hret dX9_allGo_46 h
theorem c_X9_allGo (l : Launch) {nr : Nat} {H : Hp} {x : Unit} {H' : Hp} (h : f_X9_allGo H = some (x, H')) : CU l nr yX9_allGo cX9_allGo 2 none 0 0 (fun ad => [.ref (ad 0 0)]) H x H' := by
  intro D K4 ad sz
  refine Met.ofV (by decide) (Nat.le_of_ble_eq_true rfl) ?_
  intro p e s m args below meth c hC hret hsz
  subst hsz
  exact s_X9_allGo hC hret h
theorem dX9_begin_0 : decode cX9_begin 0 = .ok (.aload_n 0, 1) := by decide +kernel
theorem dX9_begin_1 : decode cX9_begin 1 = .ok (.iconst 0, 1) := by decide +kernel
theorem dX9_begin_2 : decode cX9_begin 2 = .ok (.putfield 153, 3) := by decide +kernel
theorem dX9_begin_5 : decode cX9_begin 5 = .ok (.aload_n 0, 1) := by decide +kernel
theorem dX9_begin_6 : decode cX9_begin 6 = .ok (.iload_n 1, 1) := by decide +kernel
theorem dX9_begin_7 : decode cX9_begin 7 = .ok (.invokevirtual 208, 3) := by decide +kernel
theorem dX9_begin_10 : decode cX9_begin 10 = .ok (.ifCond .ne 5, 3) := by decide +kernel
theorem dX9_begin_13 : decode cX9_begin 13 = .ok (.iconst 0, 1) := by decide +kernel
theorem dX9_begin_14 : decode cX9_begin 14 = .ok (.ireturn, 1) := by decide +kernel
theorem dX9_begin_15 : decode cX9_begin 15 = .ok (.aload_n 0, 1) := by decide +kernel
theorem dX9_begin_16 : decode cX9_begin 16 = .ok (.invokevirtual 235, 3) := by decide +kernel
theorem dX9_begin_19 : decode cX9_begin 19 = .ok (.aload_n 0, 1) := by decide +kernel
theorem dX9_begin_20 : decode cX9_begin 20 = .ok (.iconst 1, 1) := by decide +kernel
theorem dX9_begin_21 : decode cX9_begin 21 = .ok (.putfield 238, 3) := by decide +kernel
theorem dX9_begin_24 : decode cX9_begin 24 = .ok (.aload_n 0, 1) := by decide +kernel
theorem dX9_begin_25 : decode cX9_begin 25 = .ok (.iconst 0, 1) := by decide +kernel
theorem dX9_begin_26 : decode cX9_begin 26 = .ok (.putfield 241, 3) := by decide +kernel
theorem dX9_begin_29 : decode cX9_begin 29 = .ok (.aload_n 0, 1) := by decide +kernel
theorem dX9_begin_30 : decode cX9_begin 30 = .ok (.iconst 0, 1) := by decide +kernel
theorem dX9_begin_31 : decode cX9_begin 31 = .ok (.putfield 244, 3) := by decide +kernel
theorem dX9_begin_34 : decode cX9_begin 34 = .ok (.aload_n 0, 1) := by decide +kernel
theorem dX9_begin_35 : decode cX9_begin 35 = .ok (.iload_n 1, 1) := by decide +kernel
theorem dX9_begin_36 : decode cX9_begin 36 = .ok (.invokevirtual 247, 3) := by decide +kernel
theorem dX9_begin_39 : decode cX9_begin 39 = .ok (.iconst 1, 1) := by decide +kernel
theorem dX9_begin_40 : decode cX9_begin 40 = .ok (.ireturn, 1) := by decide +kernel
def f_X9_begin (a1 : Int32) (H : Hp) : Option (Int32 × Hp) := hl (sI H 0 0 34 0) (fun (H1 : Hp) => bnd (f_X9_isDone a1 H1) (fun w3 H2 => if w3 = 0 then some (0, H2) else bnd (f_X9_allGo H2) (fun w6 H5 => hl (sI H5 0 0 27 1) (fun (H7 : Hp) => hl (sI H7 0 0 29 0) (fun (H8 : Hp) => hl (sI H8 0 0 30 0) (fun (H9 : Hp) => bnd (f_X9_comes a1 H9) (fun w11 H10 => some (1, H10))))))))
set_option maxRecDepth 100000 in
set_option maxHeartbeats 4000000 in
theorem s_X9_begin {p : Program} {l : Launch} {e : Env} {s : State} {m : MethodId} {args : Array Value} {below : List Frame} {meth : Method} {c : Code} {A : Nat → Prop} {D : va_G} {K4 : kQ} {ad : Nat → Nat → Nat} {nr : Nat} {a1 : Int32} {H : Hp} {res : Int32 × Hp} (hC : Cx p s m args c A s.heap D K4 2 RX9 cX9_begin) (hret : meth.sig.returnType = (some .boolean) ∧ meth.locks = false) (h : f_X9_begin a1 H = some res) : V p l e ({ frames := 2, cells := 0, slots := 0, locals := 42 }) s m args below meth c A s.heap (QI below args s A D K4 ad nr res) D K4 ad nr 2 0 [(0, .ref (ad 0 0)), (1, .int a1)] [] H := by
  unfold f_X9_begin at h
  refine V_aload_n hC 0 dX9_begin_0 rfl ?_
  refine V_iconst (v := 0) hC dX9_begin_1 (by decide) ?_
  refine V_putI (g := 0) (k := 0) hC 9 34 .int fw_X9_153 rfl rfl rfl rfl rfl dX9_begin_2 ?_
  refine V_hl h (fun H1 h => ?_)
  refine V_aload_n hC 0 dX9_begin_5 rfl ?_
  refine V_iload_n hC 1 dX9_begin_6 rfl ?_
  obtain ⟨w3, H2, hc, h⟩ := bnd_some h
  refine V_calli (g := 0) (k := 0) (As := [.int a1]) (st := []) hC (c_X9_isDone l hc) rfl ml_X9_208 ⟨Nat.le_of_ble_eq_true rfl, Nat.le_of_ble_eq_true rfl⟩ rfl rfl rfl (Nat.le_of_ble_eq_true rfl) dX9_begin_7 ?_
  refine V_if_ne (tgt := 15) hC dX9_begin_10 (by decide) (fun c4 => ?_) (fun c4 => ?_)
  · have h := it_neg c4 h
    refine V_aload_n hC 0 dX9_begin_15 rfl ?_
    obtain ⟨w6, H5, hc, h⟩ := bnd_some h
    refine V_callu (g := 0) (k := 0) (As := []) (st := []) hC (c_X9_allGo l hc) rfl ml_X9_235 ⟨Nat.le_of_ble_eq_true rfl, Nat.le_of_ble_eq_true rfl⟩ rfl rfl rfl (Nat.le_of_ble_eq_true rfl) dX9_begin_16 ?_
    refine V_aload_n hC 0 dX9_begin_19 rfl ?_
    refine V_iconst (v := 1) hC dX9_begin_20 (by decide) ?_
    refine V_putI (g := 0) (k := 0) hC 9 27 .int fw_X9_238 rfl rfl rfl rfl rfl dX9_begin_21 ?_
    refine V_hl h (fun H7 h => ?_)
    refine V_aload_n hC 0 dX9_begin_24 rfl ?_
    refine V_iconst (v := 0) hC dX9_begin_25 (by decide) ?_
    refine V_putI (g := 0) (k := 0) hC 9 29 .int fw_X9_241 rfl rfl rfl rfl rfl dX9_begin_26 ?_
    refine V_hl h (fun H8 h => ?_)
    refine V_aload_n hC 0 dX9_begin_29 rfl ?_
    refine V_iconst (v := 0) hC dX9_begin_30 (by decide) ?_
    refine V_putI (g := 0) (k := 0) hC 9 30 .int fw_X9_244 rfl rfl rfl rfl rfl dX9_begin_31 ?_
    refine V_hl h (fun H9 h => ?_)
    refine V_aload_n hC 0 dX9_begin_34 rfl ?_
    refine V_iload_n hC 1 dX9_begin_35 rfl ?_
    obtain ⟨w11, H10, hc, h⟩ := bnd_some h
    refine V_callu (g := 0) (k := 0) (As := [.int a1]) (st := []) hC (c_X9_comes l hc) rfl ml_X9_247 ⟨Nat.le_of_ble_eq_true rfl, Nat.le_of_ble_eq_true rfl⟩ rfl rfl rfl (Nat.le_of_ble_eq_true rfl) dX9_begin_36 ?_
    refine V_iconst (v := 1) hC dX9_begin_39 (by decide) ?_
    exact V_zret hC hret (by decide) dX9_begin_40 h
  · have h := it_pos c4 h
    refine V_iconst (v := 0) hC dX9_begin_13 (by decide) ?_
    exact V_zret hC hret (by decide) dX9_begin_14 h
theorem c_X9_begin (l : Launch) {nr : Nat} {a1 : Int32} {H : Hp} {x : Int32} {H' : Hp} (h : f_X9_begin a1 H = some (x, H')) : CI l nr yX9_begin cX9_begin 2 (some .boolean) 2 42 (fun ad => [.ref (ad 0 0), .int a1]) H x H' := by
  intro D K4 ad sz
  refine Met.ofV (by decide) (Nat.le_of_ble_eq_true rfl) ?_
  intro p e s m args below meth c hC hret hsz
  subst hsz
  exact s_X9_begin hC hret h
theorem dX9_goes_0 : decode cX9_goes 0 = .ok (.aload_n 0, 1) := by decide +kernel
theorem dX9_goes_1 : decode cX9_goes 1 = .ok (.getfield 211, 3) := by decide +kernel
theorem dX9_goes_4 : decode cX9_goes 4 = .ok (.iconst 1, 1) := by decide +kernel
theorem dX9_goes_5 : decode cX9_goes 5 = .ok (.isub, 1) := by decide +kernel
theorem dX9_goes_6 : decode cX9_goes 6 = .ok (.istore_n 2, 1) := by decide +kernel
theorem dX9_goes_7 : decode cX9_goes 7 = .ok (.aload_n 0, 1) := by decide +kernel
theorem dX9_goes_8 : decode cX9_goes 8 = .ok (.getfield 90, 3) := by decide +kernel
theorem dX9_goes_11 : decode cX9_goes 11 = .ok (.iload_n 2, 1) := by decide +kernel
theorem dX9_goes_12 : decode cX9_goes 12 = .ok (.iaload, 1) := by decide +kernel
theorem dX9_goes_13 : decode cX9_goes 13 = .ok (.istore_n 3, 1) := by decide +kernel
theorem dX9_goes_14 : decode cX9_goes 14 = .ok (.bipush 40, 2) := by decide +kernel
theorem dX9_goes_16 : decode cX9_goes 16 = .ok (.iload_n 3, 1) := by decide +kernel
theorem dX9_goes_17 : decode cX9_goes 17 = .ok (.imul, 1) := by decide +kernel
theorem dX9_goes_18 : decode cX9_goes 18 = .ok (.istore 4, 2) := by decide +kernel
theorem dX9_goes_20 : decode cX9_goes 20 = .ok (.iload_n 1, 1) := by decide +kernel
theorem dX9_goes_21 : decode cX9_goes 21 = .ok (.istore 5, 2) := by decide +kernel
theorem dX9_goes_23 : decode cX9_goes 23 = .ok (.aload_n 0, 1) := by decide +kernel
theorem dX9_goes_24 : decode cX9_goes 24 = .ok (.getfield 26, 3) := by decide +kernel
theorem dX9_goes_27 : decode cX9_goes 27 = .ok (.iload 4, 2) := by decide +kernel
theorem dX9_goes_29 : decode cX9_goes 29 = .ok (.iaload, 1) := by decide +kernel
theorem dX9_goes_30 : decode cX9_goes 30 = .ok (.aload_n 0, 1) := by decide +kernel
theorem dX9_goes_31 : decode cX9_goes 31 = .ok (.getfield 93, 3) := by decide +kernel
theorem dX9_goes_34 : decode cX9_goes 34 = .ok (.iload_n 2, 1) := by decide +kernel
theorem dX9_goes_35 : decode cX9_goes 35 = .ok (.iaload, 1) := by decide +kernel
theorem dX9_goes_36 : decode cX9_goes 36 = .ok (.if_icmp .ne 8, 3) := by decide +kernel
theorem dX9_goes_39 : decode cX9_goes 39 = .ok (.iload 5, 2) := by decide +kernel
theorem dX9_goes_41 : decode cX9_goes 41 = .ok (.ifCond .le 35, 3) := by decide +kernel
theorem dX9_goes_44 : decode cX9_goes 44 = .ok (.iload 5, 2) := by decide +kernel
theorem dX9_goes_46 : decode cX9_goes 46 = .ok (.aload_n 0, 1) := by decide +kernel
theorem dX9_goes_47 : decode cX9_goes 47 = .ok (.getfield 26, 3) := by decide +kernel
theorem dX9_goes_50 : decode cX9_goes 50 = .ok (.iload 4, 2) := by decide +kernel
theorem dX9_goes_52 : decode cX9_goes 52 = .ok (.iaload, 1) := by decide +kernel
theorem dX9_goes_53 : decode cX9_goes 53 = .ok (.aload_n 0, 1) := by decide +kernel
theorem dX9_goes_54 : decode cX9_goes 54 = .ok (.getfield 93, 3) := by decide +kernel
theorem dX9_goes_57 : decode cX9_goes 57 = .ok (.iload_n 2, 1) := by decide +kernel
theorem dX9_goes_58 : decode cX9_goes 58 = .ok (.iaload, 1) := by decide +kernel
theorem dX9_goes_59 : decode cX9_goes 59 = .ok (.if_icmp .ne 7, 3) := by decide +kernel
theorem dX9_goes_62 : decode cX9_goes 62 = .ok (.iconst 1, 1) := by decide +kernel
theorem dX9_goes_63 : decode cX9_goes 63 = .ok (.goto 4, 3) := by decide +kernel
theorem dX9_goes_66 : decode cX9_goes 66 = .ok (.iconst 0, 1) := by decide +kernel
theorem dX9_goes_67 : decode cX9_goes 67 = .ok (.isub, 1) := by decide +kernel
theorem dX9_goes_68 : decode cX9_goes 68 = .ok (.istore 5, 2) := by decide +kernel
theorem dX9_goes_70 : decode cX9_goes 70 = .ok (.iinc 4 1, 3) := by decide +kernel
theorem dX9_goes_73 : decode cX9_goes 73 = .ok (.goto (-50), 3) := by decide +kernel
theorem dX9_goes_76 : decode cX9_goes 76 = .ok (.aload_n 0, 1) := by decide +kernel
theorem dX9_goes_77 : decode cX9_goes 77 = .ok (.getfield 75, 3) := by decide +kernel
theorem dX9_goes_80 : decode cX9_goes 80 = .ok (.iload 4, 2) := by decide +kernel
theorem dX9_goes_82 : decode cX9_goes 82 = .ok (.dup2, 1) := by decide +kernel
theorem dX9_goes_83 : decode cX9_goes 83 = .ok (.laload, 1) := by decide +kernel
theorem dX9_goes_84 : decode cX9_goes 84 = .ok (.lconst 1, 1) := by decide +kernel
theorem dX9_goes_85 : decode cX9_goes 85 = .ok (.ladd, 1) := by decide +kernel
theorem dX9_goes_86 : decode cX9_goes 86 = .ok (.lastore, 1) := by decide +kernel
theorem dX9_goes_87 : decode cX9_goes 87 = .ok (.aload_n 0, 1) := by decide +kernel
theorem dX9_goes_88 : decode cX9_goes 88 = .ok (.getfield 41, 3) := by decide +kernel
theorem dX9_goes_91 : decode cX9_goes 91 = .ok (.iload 4, 2) := by decide +kernel
theorem dX9_goes_93 : decode cX9_goes 93 = .ok (.baload, 1) := by decide +kernel
theorem dX9_goes_94 : decode cX9_goes 94 = .ok (.ifCond .eq 24, 3) := by decide +kernel
theorem dX9_goes_97 : decode cX9_goes 97 = .ok (.aload_n 0, 1) := by decide +kernel
theorem dX9_goes_98 : decode cX9_goes 98 = .ok (.getfield 78, 3) := by decide +kernel
theorem dX9_goes_101 : decode cX9_goes 101 = .ok (.iload 4, 2) := by decide +kernel
theorem dX9_goes_103 : decode cX9_goes 103 = .ok (.dup2, 1) := by decide +kernel
theorem dX9_goes_104 : decode cX9_goes 104 = .ok (.laload, 1) := by decide +kernel
theorem dX9_goes_105 : decode cX9_goes 105 = .ok (.lconst 1, 1) := by decide +kernel
theorem dX9_goes_106 : decode cX9_goes 106 = .ok (.ladd, 1) := by decide +kernel
theorem dX9_goes_107 : decode cX9_goes 107 = .ok (.lastore, 1) := by decide +kernel
theorem dX9_goes_108 : decode cX9_goes 108 = .ok (.aload_n 0, 1) := by decide +kernel
theorem dX9_goes_109 : decode cX9_goes 109 = .ok (.dup, 1) := by decide +kernel
theorem dX9_goes_110 : decode cX9_goes 110 = .ok (.getfield 244, 3) := by decide +kernel
theorem dX9_goes_113 : decode cX9_goes 113 = .ok (.iconst 1, 1) := by decide +kernel
theorem dX9_goes_114 : decode cX9_goes 114 = .ok (.iadd, 1) := by decide +kernel
theorem dX9_goes_115 : decode cX9_goes 115 = .ok (.putfield 244, 3) := by decide +kernel
theorem dX9_goes_118 : decode cX9_goes 118 = .ok (.aload_n 0, 1) := by decide +kernel
theorem dX9_goes_119 : decode cX9_goes 119 = .ok (.getfield 96, 3) := by decide +kernel
theorem dX9_goes_122 : decode cX9_goes 122 = .ok (.iload_n 2, 1) := by decide +kernel
theorem dX9_goes_123 : decode cX9_goes 123 = .ok (.dup2, 1) := by decide +kernel
theorem dX9_goes_124 : decode cX9_goes 124 = .ok (.laload, 1) := by decide +kernel
theorem dX9_goes_125 : decode cX9_goes 125 = .ok (.aload_n 0, 1) := by decide +kernel
theorem dX9_goes_126 : decode cX9_goes 126 = .ok (.getfield 60, 3) := by decide +kernel
theorem dX9_goes_129 : decode cX9_goes 129 = .ok (.iload 4, 2) := by decide +kernel
theorem dX9_goes_131 : decode cX9_goes 131 = .ok (.laload, 1) := by decide +kernel
theorem dX9_goes_132 : decode cX9_goes 132 = .ok (.ladd, 1) := by decide +kernel
theorem dX9_goes_133 : decode cX9_goes 133 = .ok (.lastore, 1) := by decide +kernel
theorem dX9_goes_134 : decode cX9_goes 134 = .ok (.aload_n 0, 1) := by decide +kernel
theorem dX9_goes_135 : decode cX9_goes 135 = .ok (.getfield 93, 3) := by decide +kernel
theorem dX9_goes_138 : decode cX9_goes 138 = .ok (.iload_n 2, 1) := by decide +kernel
theorem dX9_goes_139 : decode cX9_goes 139 = .ok (.aload_n 0, 1) := by decide +kernel
theorem dX9_goes_140 : decode cX9_goes 140 = .ok (.getfield 29, 3) := by decide +kernel
theorem dX9_goes_143 : decode cX9_goes 143 = .ok (.iload 4, 2) := by decide +kernel
theorem dX9_goes_145 : decode cX9_goes 145 = .ok (.iaload, 1) := by decide +kernel
theorem dX9_goes_146 : decode cX9_goes 146 = .ok (.iastore, 1) := by decide +kernel
theorem dX9_goes_147 : decode cX9_goes 147 = .ok (.aload_n 0, 1) := by decide +kernel
theorem dX9_goes_148 : decode cX9_goes 148 = .ok (.getfield 35, 3) := by decide +kernel
theorem dX9_goes_151 : decode cX9_goes 151 = .ok (.iload 4, 2) := by decide +kernel
theorem dX9_goes_153 : decode cX9_goes 153 = .ok (.baload, 1) := by decide +kernel
theorem dX9_goes_154 : decode cX9_goes 154 = .ok (.ifCond .eq 37, 3) := by decide +kernel
theorem dX9_goes_157 : decode cX9_goes 157 = .ok (.aload_n 0, 1) := by decide +kernel
theorem dX9_goes_158 : decode cX9_goes 158 = .ok (.iload_n 3, 1) := by decide +kernel
theorem dX9_goes_159 : decode cX9_goes 159 = .ok (.aload_n 0, 1) := by decide +kernel
theorem dX9_goes_160 : decode cX9_goes 160 = .ok (.getfield 96, 3) := by decide +kernel
theorem dX9_goes_163 : decode cX9_goes 163 = .ok (.iload_n 2, 1) := by decide +kernel
theorem dX9_goes_164 : decode cX9_goes 164 = .ok (.laload, 1) := by decide +kernel
theorem dX9_goes_165 : decode cX9_goes 165 = .ok (.invokevirtual 250, 3) := by decide +kernel
theorem dX9_goes_168 : decode cX9_goes 168 = .ok (.aload_n 0, 1) := by decide +kernel
theorem dX9_goes_169 : decode cX9_goes 169 = .ok (.getfield 96, 3) := by decide +kernel
theorem dX9_goes_172 : decode cX9_goes 172 = .ok (.iload_n 2, 1) := by decide +kernel
theorem dX9_goes_173 : decode cX9_goes 173 = .ok (.aload_n 0, 1) := by decide +kernel
theorem dX9_goes_174 : decode cX9_goes 174 = .ok (.getfield 57, 3) := by decide +kernel
theorem dX9_goes_177 : decode cX9_goes 177 = .ok (.bipush 20, 2) := by decide +kernel
theorem dX9_goes_179 : decode cX9_goes 179 = .ok (.iload_n 3, 1) := by decide +kernel
theorem dX9_goes_180 : decode cX9_goes 180 = .ok (.imul, 1) := by decide +kernel
theorem dX9_goes_181 : decode cX9_goes 181 = .ok (.aload_n 0, 1) := by decide +kernel
theorem dX9_goes_182 : decode cX9_goes 182 = .ok (.getfield 29, 3) := by decide +kernel
theorem dX9_goes_185 : decode cX9_goes 185 = .ok (.iload 4, 2) := by decide +kernel
theorem dX9_goes_187 : decode cX9_goes 187 = .ok (.iaload, 1) := by decide +kernel
theorem dX9_goes_188 : decode cX9_goes 188 = .ok (.iadd, 1) := by decide +kernel
theorem dX9_goes_189 : decode cX9_goes 189 = .ok (.laload, 1) := by decide +kernel
theorem dX9_goes_190 : decode cX9_goes 190 = .ok (.lastore, 1) := by decide +kernel
theorem dX9_goes_191 : decode cX9_goes 191 = .ok (.return_, 1) := by decide +kernel
def L_X9_goes_23 (b2 : Int32) (b3 : Int32) (k : Int32 → Hp → Option (Unit × Hp)) : Nat → Int32 → Int32 → Hp → Option (Unit × Hp)
  | 0, _, _, _ => none
  | n + 1, x4, x5, H => gd x4 320 (gd b2 30 (jn (fun (H5 : Hp) => gd x4 320 (gd b2 30 (if (gI H5 0 6 (Int32.toNatClampNeg x4)) = (gI H5 0 32 (Int32.toNatClampNeg b2)) then vl ((x5 - 1)) (fun (v9 : Int32) => vl (x4 + (1 : Int32)) (fun (v10 : Int32) => L_X9_goes_23 b2 b3 k n v10 v9 H5)) else vl ((x5 - 0)) (fun (v7 : Int32) => vl (x4 + (1 : Int32)) (fun (v8 : Int32) => L_X9_goes_23 b2 b3 k n v8 v7 H5))))) (fun j4 => if (gI H 0 6 (Int32.toNatClampNeg x4)) = (gI H 0 32 (Int32.toNatClampNeg b2)) then if x5 ≤ 0 then k x4 H else j4 H else j4 H)))
set_option maxRecDepth 100000 in
set_option maxHeartbeats 4000000 in
theorem sL_X9_goes_23 {p : Program} {l : Launch} {e : Env} {s : State} {m : MethodId} {args : Array Value} {below : List Frame} {meth : Method} {c : Code} {A : Nat → Prop} {D : va_G} {K4 : kQ} {ad : Nat → Nat → Nat} {nr : Nat} {b2 : Int32} {b3 : Int32} {k : Int32 → Hp → Option (Unit × Hp)} {res : Unit × Hp} (hC : Cx p s m args c A s.heap D K4 6 RX9 cX9_goes) (hret : meth.sig.returnType = none ∧ meth.locks = false) (hk : ∀ (z4 : Int32) (H : Hp), k z4 H = some res → V p l e ({ frames := 1, cells := 0, slots := 0, locals := 24 }) s m args below meth c A s.heap (QU below args s A D K4 ad nr res) D K4 ad nr 6 76 [(0, .ref (ad 0 0)), (2, .int b2), (3, .int b3), (4, .int z4)] [] H) : ∀ (n : Nat) (x4 : Int32) (x5 : Int32) (H : Hp), L_X9_goes_23 b2 b3 k n x4 x5 H = some res → V p l e ({ frames := 1, cells := 0, slots := 0, locals := 24 }) s m args below meth c A s.heap (QU below args s A D K4 ad nr res) D K4 ad nr 6 23 [(0, .ref (ad 0 0)), (2, .int b2), (3, .int b3), (4, .int x4), (5, .int x5)] [] H := by
  intro n
  induction n with
  | zero => intro x4 x5 H h; exact nomatch (show (none : Option (Unit × Hp)) = some res from h)
  | succ n ih =>
    intro x4 x5 H h
    rw [L_X9_goes_23] at h
    refine V_aload_n hC 0 dX9_goes_23 rfl ?_
    refine V_getR (g := 0) (k := 0) (g' := 0) (k' := 6) hC 9 6 fl_X9_26 rfl rfl rfl rfl dX9_goes_24 ?_
    refine V_iload hC 3 dX9_goes_27 rfl ?_
    obtain ⟨hi, h⟩ := gd_some h
    refine V_iald (g := 0) (k := 6) hC rfl rfl hi dX9_goes_29 ?_
    refine V_aload_n hC 0 dX9_goes_30 rfl ?_
    refine V_getR (g := 0) (k := 0) (g' := 0) (k' := 32) hC 9 32 fl_X9_93 rfl rfl rfl rfl dX9_goes_31 ?_
    refine V_iload_n hC 1 dX9_goes_34 rfl ?_
    obtain ⟨hi, h⟩ := gd_some h
    refine V_iald (g := 0) (k := 32) hC rfl rfl hi dX9_goes_35 ?_
    refine V_jn0 (pj := 44) (lj := [(0, .ref (ad 0 0)), (2, .int b2), (3, .int b3), (4, .int x4), (5, .int x5)]) (sj := []) h (fun H5 h => ?_) (fun hj4 h => ?_)
    · refine V_iload hC 4 dX9_goes_44 rfl ?_
      refine V_aload_n hC 0 dX9_goes_46 rfl ?_
      refine V_getR (g := 0) (k := 0) (g' := 0) (k' := 6) hC 9 6 fl_X9_26 rfl rfl rfl rfl dX9_goes_47 ?_
      refine V_iload hC 3 dX9_goes_50 rfl ?_
      obtain ⟨hi, h⟩ := gd_some h
      refine V_iald (g := 0) (k := 6) hC rfl rfl hi dX9_goes_52 ?_
      refine V_aload_n hC 0 dX9_goes_53 rfl ?_
      refine V_getR (g := 0) (k := 0) (g' := 0) (k' := 32) hC 9 32 fl_X9_93 rfl rfl rfl rfl dX9_goes_54 ?_
      refine V_iload_n hC 1 dX9_goes_57 rfl ?_
      obtain ⟨hi, h⟩ := gd_some h
      refine V_iald (g := 0) (k := 32) hC rfl rfl hi dX9_goes_58 ?_
      refine V_icmp_ne (tgt := 66) hC dX9_goes_59 (by decide) (fun c6 => ?_) (fun c6 => ?_)
      · have h := it_neg c6 h
        refine V_iconst (v := 0) hC dX9_goes_66 (by decide) ?_
        refine V_isub hC dX9_goes_67 ?_
        refine V_vlI h (fun v7 h => ?_)
        refine V_istore (lv' := [(5, .int v7), (0, .ref (ad 0 0)), (2, .int b2), (3, .int b3), (4, .int x4)]) hC dX9_goes_68 (Nat.le_of_ble_eq_true rfl) rfl ?_
        refine V_vi h (fun v8 hvv8 h => ?_)
        refine V_iinc (v := v8) (lv' := [(4, .int v8), (5, .int v7), (0, .ref (ad 0 0)), (2, .int b2), (3, .int b3)]) hC 4 dX9_goes_70 rfl hvv8.symm (Nat.le_of_ble_eq_true rfl) rfl ?_
        refine V_goto (tgt := 23) hC dX9_goes_73 (by decide) ?_
        refine V_lv (lv' := [(0, .ref (ad 0 0)), (2, .int b2), (3, .int b3), (4, .int v8), (5, .int v7)]) [2, 3, 4, 0, 1] rfl ?_
        exact ih v8 v7 H5 h
      · have h := it_pos c6 h
        refine V_iconst (v := 1) hC dX9_goes_62 (by decide) ?_
        refine V_goto (tgt := 67) hC dX9_goes_63 (by decide) ?_
        refine V_isub hC dX9_goes_67 ?_
        refine V_vlI h (fun v9 h => ?_)
        refine V_istore (lv' := [(5, .int v9), (0, .ref (ad 0 0)), (2, .int b2), (3, .int b3), (4, .int x4)]) hC dX9_goes_68 (Nat.le_of_ble_eq_true rfl) rfl ?_
        refine V_vi h (fun v10 hvv10 h => ?_)
        refine V_iinc (v := v10) (lv' := [(4, .int v10), (5, .int v9), (0, .ref (ad 0 0)), (2, .int b2), (3, .int b3)]) hC 4 dX9_goes_70 rfl hvv10.symm (Nat.le_of_ble_eq_true rfl) rfl ?_
        refine V_goto (tgt := 23) hC dX9_goes_73 (by decide) ?_
        refine V_lv (lv' := [(0, .ref (ad 0 0)), (2, .int b2), (3, .int b3), (4, .int v10), (5, .int v9)]) [2, 3, 4, 0, 1] rfl ?_
        exact ih v10 v9 H5 h
    · refine V_icmp_ne (tgt := 44) hC dX9_goes_36 (by decide) (fun c11 => ?_) (fun c11 => ?_)
      · have h := it_neg c11 h
        refine V_lv (lv' := [(0, .ref (ad 0 0)), (2, .int b2), (3, .int b3), (4, .int x4), (5, .int x5)]) [0, 1, 2, 3, 4] rfl ?_
        exact hj4 H h
      · have h := it_pos c11 h
        refine V_iload hC 4 dX9_goes_39 rfl ?_
        refine V_if_le (tgt := 76) hC dX9_goes_41 (by decide) (fun c12 => ?_) (fun c12 => ?_)
        · have h := it_pos c12 h
          refine V_lv (lv' := [(0, .ref (ad 0 0)), (2, .int b2), (3, .int b3), (4, .int x4)]) [0, 1, 2, 3] rfl ?_
          exact hk x4 H h
        · have h := it_neg c12 h
          refine V_lv (lv' := [(0, .ref (ad 0 0)), (2, .int b2), (3, .int b3), (4, .int x4), (5, .int x5)]) [0, 1, 2, 3, 4] rfl ?_
          exact hj4 H h
def f_X9_goes (a1 : Int32) (H : Hp) : Option (Unit × Hp) := vl (((gI H 0 0 28) - 1)) (fun (v1 : Int32) => gd v1 30 (vl ((gI H 0 31 (Int32.toNatClampNeg v1))) (fun (v2 : Int32) => vl ((40 * v2)) (fun (v3 : Int32) => L_X9_goes_23 v1 v2 (fun (z13 : Int32) (H14 : Hp) => gd z13 320 (gd z13 320 (hl (sJ H14 0 22 (Int32.toNatClampNeg z13) ((gJ H14 0 22 (Int32.toNatClampNeg z13)) + 1)) (fun (H15 : Hp) => gd z13 320 (jn (fun (H17 : Hp) => gd v1 30 (gd z13 320 (gd v1 30 (hl (sJ H17 0 33 (Int32.toNatClampNeg v1) ((gJ H17 0 33 (Int32.toNatClampNeg v1)) + (gJ H17 0 17 (Int32.toNatClampNeg z13)))) (fun (H18 : Hp) => gd z13 320 (gd v1 30 (hl (sI H18 0 32 (Int32.toNatClampNeg v1) (gI H18 0 7 (Int32.toNatClampNeg z13))) (fun (H19 : Hp) => gd z13 320 (if (gI H19 0 9 (Int32.toNatClampNeg z13)) = 0 then some ((), H19) else gd v1 30 (bnd (f_X9_ends v2 (gJ H19 0 33 (Int32.toNatClampNeg v1)) H19) (fun w22 H21 => gd z13 320 (gd ((20 * v2) + (gI H21 0 7 (Int32.toNatClampNeg z13))) 160 (gd v1 30 (hl (sJ H21 0 33 (Int32.toNatClampNeg v1) (gJ H21 0 16 (Int32.toNatClampNeg ((20 * v2) + (gI H21 0 7 (Int32.toNatClampNeg z13)))))) (fun (H23 : Hp) => some ((), H23)))))))))))))))) (fun j16 => if (gI H15 0 11 (Int32.toNatClampNeg z13)) = 0 then j16 H15 else gd z13 320 (gd z13 320 (hl (sJ H15 0 23 (Int32.toNatClampNeg z13) ((gJ H15 0 23 (Int32.toNatClampNeg z13)) + 1)) (fun (H25 : Hp) => hl (sI H25 0 0 30 ((gI H25 0 0 30) + 1)) (fun (H26 : Hp) => j16 H26)))))))))) FU v3 a1 H))))
set_option maxRecDepth 100000 in
set_option maxHeartbeats 4000000 in
theorem s_X9_goes {p : Program} {l : Launch} {e : Env} {s : State} {m : MethodId} {args : Array Value} {below : List Frame} {meth : Method} {c : Code} {A : Nat → Prop} {D : va_G} {K4 : kQ} {ad : Nat → Nat → Nat} {nr : Nat} {a1 : Int32} {H : Hp} {res : Unit × Hp} (hC : Cx p s m args c A s.heap D K4 6 RX9 cX9_goes) (hret : meth.sig.returnType = none ∧ meth.locks = false) (h : f_X9_goes a1 H = some res) : V p l e ({ frames := 1, cells := 0, slots := 0, locals := 24 }) s m args below meth c A s.heap (QU below args s A D K4 ad nr res) D K4 ad nr 6 0 [(0, .ref (ad 0 0)), (1, .int a1)] [] H := by
  unfold f_X9_goes at h
  refine V_aload_n hC 0 dX9_goes_0 rfl ?_
  refine V_getI (g := 0) (k := 0) hC 9 28 fl_X9_211 rfl rfl rfl dX9_goes_1 ?_
  refine V_iconst (v := 1) hC dX9_goes_4 (by decide) ?_
  refine V_isub hC dX9_goes_5 ?_
  refine V_vlI h (fun v1 h => ?_)
  refine V_istore_n (lv' := [(2, .int v1), (0, .ref (ad 0 0)), (1, .int a1)]) hC dX9_goes_6 (Nat.le_of_ble_eq_true rfl) rfl ?_
  refine V_aload_n hC 1 dX9_goes_7 rfl ?_
  refine V_getR (g := 0) (k := 0) (g' := 0) (k' := 31) hC 9 31 fl_X9_90 rfl rfl rfl rfl dX9_goes_8 ?_
  refine V_iload_n hC 0 dX9_goes_11 rfl ?_
  obtain ⟨hi, h⟩ := gd_some h
  refine V_iald (g := 0) (k := 31) hC rfl rfl hi dX9_goes_12 ?_
  refine V_vlI h (fun v2 h => ?_)
  refine V_istore_n (lv' := [(3, .int v2), (2, .int v1), (0, .ref (ad 0 0)), (1, .int a1)]) hC dX9_goes_13 (Nat.le_of_ble_eq_true rfl) rfl ?_
  refine V_bipush (v := 40) hC dX9_goes_14 (by decide) ?_
  refine V_iload_n hC 0 dX9_goes_16 rfl ?_
  refine V_imul hC dX9_goes_17 ?_
  refine V_vlI h (fun v3 h => ?_)
  refine V_istore (lv' := [(4, .int v3), (3, .int v2), (2, .int v1), (0, .ref (ad 0 0)), (1, .int a1)]) hC dX9_goes_18 (Nat.le_of_ble_eq_true rfl) rfl ?_
  refine V_iload_n hC 4 dX9_goes_20 rfl ?_
  refine V_istore (lv' := [(5, .int a1), (4, .int v3), (3, .int v2), (2, .int v1), (0, .ref (ad 0 0)), (1, .int a1)]) hC dX9_goes_21 (Nat.le_of_ble_eq_true rfl) rfl ?_
  refine V_lv (lv' := [(0, .ref (ad 0 0)), (2, .int v1), (3, .int v2), (4, .int v3), (5, .int a1)]) [4, 3, 2, 1, 0] rfl ?_
  refine sL_X9_goes_23 hC hret (fun z13 H14 h => ?_) _ v3 a1 H h
  refine V_aload_n hC 0 dX9_goes_76 rfl ?_
  refine V_getR (g := 0) (k := 0) (g' := 0) (k' := 22) hC 9 22 fl_X9_75 rfl rfl rfl rfl dX9_goes_77 ?_
  refine V_iload hC 3 dX9_goes_80 rfl ?_
  refine V_dup2 hC dX9_goes_82 rfl rfl ?_
  obtain ⟨hi, h⟩ := gd_some h
  refine V_lald (g := 0) (k := 22) hC rfl rfl hi dX9_goes_83 ?_
  refine V_lconst (v := 1) hC dX9_goes_84 (by decide) ?_
  refine V_ladd hC dX9_goes_85 ?_
  obtain ⟨hi, h⟩ := gd_some h
  refine V_last (g := 0) (k := 22) hC rfl rfl hi dX9_goes_86 ?_
  refine V_hl h (fun H15 h => ?_)
  refine V_aload_n hC 0 dX9_goes_87 rfl ?_
  refine V_getR (g := 0) (k := 0) (g' := 0) (k' := 11) hC 9 11 fl_X9_41 rfl rfl rfl rfl dX9_goes_88 ?_
  refine V_iload hC 3 dX9_goes_91 rfl ?_
  obtain ⟨hi, h⟩ := gd_some h
  refine V_zald (g := 0) (k := 11) hC rfl rfl hi dX9_goes_93 ?_
  refine V_jn0 (pj := 118) (lj := [(0, .ref (ad 0 0)), (2, .int v1), (3, .int v2), (4, .int z13)]) (sj := []) h (fun H17 h => ?_) (fun hj16 h => ?_)
  · refine V_aload_n hC 0 dX9_goes_118 rfl ?_
    refine V_getR (g := 0) (k := 0) (g' := 0) (k' := 33) hC 9 33 fl_X9_96 rfl rfl rfl rfl dX9_goes_119 ?_
    refine V_iload_n hC 1 dX9_goes_122 rfl ?_
    refine V_dup2 hC dX9_goes_123 rfl rfl ?_
    obtain ⟨hi, h⟩ := gd_some h
    refine V_lald (g := 0) (k := 33) hC rfl rfl hi dX9_goes_124 ?_
    refine V_aload_n hC 0 dX9_goes_125 rfl ?_
    refine V_getR (g := 0) (k := 0) (g' := 0) (k' := 17) hC 9 17 fl_X9_60 rfl rfl rfl rfl dX9_goes_126 ?_
    refine V_iload hC 3 dX9_goes_129 rfl ?_
    obtain ⟨hi, h⟩ := gd_some h
    refine V_lald (g := 0) (k := 17) hC rfl rfl hi dX9_goes_131 ?_
    refine V_ladd hC dX9_goes_132 ?_
    obtain ⟨hi, h⟩ := gd_some h
    refine V_last (g := 0) (k := 33) hC rfl rfl hi dX9_goes_133 ?_
    refine V_hl h (fun H18 h => ?_)
    refine V_aload_n hC 0 dX9_goes_134 rfl ?_
    refine V_getR (g := 0) (k := 0) (g' := 0) (k' := 32) hC 9 32 fl_X9_93 rfl rfl rfl rfl dX9_goes_135 ?_
    refine V_iload_n hC 1 dX9_goes_138 rfl ?_
    refine V_aload_n hC 0 dX9_goes_139 rfl ?_
    refine V_getR (g := 0) (k := 0) (g' := 0) (k' := 7) hC 9 7 fl_X9_29 rfl rfl rfl rfl dX9_goes_140 ?_
    refine V_iload hC 3 dX9_goes_143 rfl ?_
    obtain ⟨hi, h⟩ := gd_some h
    refine V_iald (g := 0) (k := 7) hC rfl rfl hi dX9_goes_145 ?_
    obtain ⟨hi, h⟩ := gd_some h
    refine V_iast (g := 0) (k := 32) hC rfl rfl hi dX9_goes_146 ?_
    refine V_hl h (fun H19 h => ?_)
    refine V_aload_n hC 0 dX9_goes_147 rfl ?_
    refine V_getR (g := 0) (k := 0) (g' := 0) (k' := 9) hC 9 9 fl_X9_35 rfl rfl rfl rfl dX9_goes_148 ?_
    refine V_iload hC 3 dX9_goes_151 rfl ?_
    obtain ⟨hi, h⟩ := gd_some h
    refine V_zald (g := 0) (k := 9) hC rfl rfl hi dX9_goes_153 ?_
    refine V_if_eq (tgt := 191) hC dX9_goes_154 (by decide) (fun c20 => ?_) (fun c20 => ?_)
    · have h := it_pos c20 h
      exact V_vret hC hret dX9_goes_191 h
    · have h := it_neg c20 h
      refine V_aload_n hC 0 dX9_goes_157 rfl ?_
      refine V_iload_n hC 2 dX9_goes_158 rfl ?_
      refine V_aload_n hC 0 dX9_goes_159 rfl ?_
      refine V_getR (g := 0) (k := 0) (g' := 0) (k' := 33) hC 9 33 fl_X9_96 rfl rfl rfl rfl dX9_goes_160 ?_
      refine V_iload_n hC 1 dX9_goes_163 rfl ?_
      obtain ⟨hi, h⟩ := gd_some h
      refine V_lald (g := 0) (k := 33) hC rfl rfl hi dX9_goes_164 ?_
      obtain ⟨w22, H21, hc, h⟩ := bnd_some h
      refine V_callu (g := 0) (k := 0) (As := [.int v2, .long (gJ H19 0 33 (Int32.toNatClampNeg v1))]) (st := []) hC (c_X9_ends l hc) rfl ml_X9_250 ⟨Nat.le_of_ble_eq_true rfl, Nat.le_of_ble_eq_true rfl⟩ rfl rfl rfl (Nat.le_of_ble_eq_true rfl) dX9_goes_165 ?_
      refine V_aload_n hC 0 dX9_goes_168 rfl ?_
      refine V_getR (g := 0) (k := 0) (g' := 0) (k' := 33) hC 9 33 fl_X9_96 rfl rfl rfl rfl dX9_goes_169 ?_
      refine V_iload_n hC 1 dX9_goes_172 rfl ?_
      refine V_aload_n hC 0 dX9_goes_173 rfl ?_
      refine V_getR (g := 0) (k := 0) (g' := 0) (k' := 16) hC 9 16 fl_X9_57 rfl rfl rfl rfl dX9_goes_174 ?_
      refine V_bipush (v := 20) hC dX9_goes_177 (by decide) ?_
      refine V_iload_n hC 2 dX9_goes_179 rfl ?_
      refine V_imul hC dX9_goes_180 ?_
      refine V_aload_n hC 0 dX9_goes_181 rfl ?_
      refine V_getR (g := 0) (k := 0) (g' := 0) (k' := 7) hC 9 7 fl_X9_29 rfl rfl rfl rfl dX9_goes_182 ?_
      refine V_iload hC 3 dX9_goes_185 rfl ?_
      obtain ⟨hi, h⟩ := gd_some h
      refine V_iald (g := 0) (k := 7) hC rfl rfl hi dX9_goes_187 ?_
      refine V_iadd hC dX9_goes_188 ?_
      obtain ⟨hi, h⟩ := gd_some h
      refine V_lald (g := 0) (k := 16) hC rfl rfl hi dX9_goes_189 ?_
      obtain ⟨hi, h⟩ := gd_some h
      refine V_last (g := 0) (k := 33) hC rfl rfl hi dX9_goes_190 ?_
      refine V_hl h (fun H23 h => ?_)
      exact V_vret hC hret dX9_goes_191 h
  · refine V_if_eq (tgt := 118) hC dX9_goes_94 (by decide) (fun c24 => ?_) (fun c24 => ?_)
    · have h := it_pos c24 h
      refine V_lv (lv' := [(0, .ref (ad 0 0)), (2, .int v1), (3, .int v2), (4, .int z13)]) [0, 1, 2, 3] rfl ?_
      exact hj16 H15 h
    · have h := it_neg c24 h
      refine V_aload_n hC 0 dX9_goes_97 rfl ?_
      refine V_getR (g := 0) (k := 0) (g' := 0) (k' := 23) hC 9 23 fl_X9_78 rfl rfl rfl rfl dX9_goes_98 ?_
      refine V_iload hC 3 dX9_goes_101 rfl ?_
      refine V_dup2 hC dX9_goes_103 rfl rfl ?_
      obtain ⟨hi, h⟩ := gd_some h
      refine V_lald (g := 0) (k := 23) hC rfl rfl hi dX9_goes_104 ?_
      refine V_lconst (v := 1) hC dX9_goes_105 (by decide) ?_
      refine V_ladd hC dX9_goes_106 ?_
      obtain ⟨hi, h⟩ := gd_some h
      refine V_last (g := 0) (k := 23) hC rfl rfl hi dX9_goes_107 ?_
      refine V_hl h (fun H25 h => ?_)
      refine V_aload_n hC 0 dX9_goes_108 rfl ?_
      refine V_dup hC dX9_goes_109 rfl ?_
      refine V_getI (g := 0) (k := 0) hC 9 30 fl_X9_244 rfl rfl rfl dX9_goes_110 ?_
      refine V_iconst (v := 1) hC dX9_goes_113 (by decide) ?_
      refine V_iadd hC dX9_goes_114 ?_
      refine V_putI (g := 0) (k := 0) hC 9 30 .int fw_X9_244 rfl rfl rfl rfl rfl dX9_goes_115 ?_
      refine V_hl h (fun H26 h => ?_)
      refine V_lv (lv' := [(0, .ref (ad 0 0)), (2, .int v1), (3, .int v2), (4, .int z13)]) [0, 1, 2, 3] rfl ?_
      exact hj16 H26 h
theorem c_X9_goes (l : Launch) {nr : Nat} {a1 : Int32} {H : Hp} {x : Unit} {H' : Hp} (h : f_X9_goes a1 H = some (x, H')) : CU l nr yX9_goes cX9_goes 6 none 1 24 (fun ad => [.ref (ad 0 0), .int a1]) H x H' := by
  intro D K4 ad sz
  refine Met.ofV (by decide) (Nat.le_of_ble_eq_true rfl) ?_
  intro p e s m args below meth c hC hret hsz
  subst hsz
  exact s_X9_goes hC hret h
theorem dX9_go_0 : decode cX9_go 0 = .ok (.aload_n 0, 1) := by decide +kernel
theorem dX9_go_1 : decode cX9_go 1 = .ok (.iconst 0, 1) := by decide +kernel
theorem dX9_go_2 : decode cX9_go 2 = .ok (.putfield 153, 3) := by decide +kernel
theorem dX9_go_5 : decode cX9_go 5 = .ok (.iload_n 1, 1) := by decide +kernel
theorem dX9_go_6 : decode cX9_go 6 = .ok (.iconst 1, 1) := by decide +kernel
theorem dX9_go_7 : decode cX9_go 7 = .ok (.if_icmp .lt 18, 3) := by decide +kernel
theorem dX9_go_10 : decode cX9_go 10 = .ok (.iload_n 1, 1) := by decide +kernel
theorem dX9_go_11 : decode cX9_go 11 = .ok (.sipush 10000, 3) := by decide +kernel
theorem dX9_go_14 : decode cX9_go 14 = .ok (.if_icmp .gt 11, 3) := by decide +kernel
theorem dX9_go_17 : decode cX9_go 17 = .ok (.aload_n 0, 1) := by decide +kernel
theorem dX9_go_18 : decode cX9_go 18 = .ok (.getfield 238, 3) := by decide +kernel
theorem dX9_go_21 : decode cX9_go 21 = .ok (.iconst 1, 1) := by decide +kernel
theorem dX9_go_22 : decode cX9_go 22 = .ok (.if_icmp .eq 5, 3) := by decide +kernel
theorem dX9_go_25 : decode cX9_go 25 = .ok (.iconst (-1), 1) := by decide +kernel
theorem dX9_go_26 : decode cX9_go 26 = .ok (.ireturn, 1) := by decide +kernel
theorem dX9_go_27 : decode cX9_go 27 = .ok (.iconst 0, 1) := by decide +kernel
theorem dX9_go_28 : decode cX9_go 28 = .ok (.istore_n 3, 1) := by decide +kernel
theorem dX9_go_29 : decode cX9_go 29 = .ok (.iconst 0, 1) := by decide +kernel
theorem dX9_go_30 : decode cX9_go 30 = .ok (.istore 4, 2) := by decide +kernel
theorem dX9_go_32 : decode cX9_go 32 = .ok (.iload_n 3, 1) := by decide +kernel
theorem dX9_go_33 : decode cX9_go 33 = .ok (.iload_n 1, 1) := by decide +kernel
theorem dX9_go_34 : decode cX9_go 34 = .ok (.if_icmp .ge 258, 3) := by decide +kernel
theorem dX9_go_37 : decode cX9_go 37 = .ok (.aload_n 0, 1) := by decide +kernel
theorem dX9_go_38 : decode cX9_go 38 = .ok (.getfield 238, 3) := by decide +kernel
theorem dX9_go_41 : decode cX9_go 41 = .ok (.iconst 1, 1) := by decide +kernel
theorem dX9_go_42 : decode cX9_go 42 = .ok (.if_icmp .ne 250, 3) := by decide +kernel
theorem dX9_go_45 : decode cX9_go 45 = .ok (.iinc 3 1, 3) := by decide +kernel
theorem dX9_go_48 : decode cX9_go 48 = .ok (.aload_n 0, 1) := by decide +kernel
theorem dX9_go_49 : decode cX9_go 49 = .ok (.dup, 1) := by decide +kernel
theorem dX9_go_50 : decode cX9_go 50 = .ok (.getfield 241, 3) := by decide +kernel
theorem dX9_go_53 : decode cX9_go 53 = .ok (.iconst 1, 1) := by decide +kernel
theorem dX9_go_54 : decode cX9_go 54 = .ok (.iadd, 1) := by decide +kernel
theorem dX9_go_55 : decode cX9_go 55 = .ok (.putfield 241, 3) := by decide +kernel
theorem dX9_go_58 : decode cX9_go 58 = .ok (.aload_n 0, 1) := by decide +kernel
theorem dX9_go_59 : decode cX9_go 59 = .ok (.getfield 211, 3) := by decide +kernel
theorem dX9_go_62 : decode cX9_go 62 = .ok (.iconst 1, 1) := by decide +kernel
theorem dX9_go_63 : decode cX9_go 63 = .ok (.isub, 1) := by decide +kernel
theorem dX9_go_64 : decode cX9_go 64 = .ok (.istore 5, 2) := by decide +kernel
theorem dX9_go_66 : decode cX9_go 66 = .ok (.aload_n 0, 1) := by decide +kernel
theorem dX9_go_67 : decode cX9_go 67 = .ok (.getfield 90, 3) := by decide +kernel
theorem dX9_go_70 : decode cX9_go 70 = .ok (.iload 5, 2) := by decide +kernel
theorem dX9_go_72 : decode cX9_go 72 = .ok (.iaload, 1) := by decide +kernel
theorem dX9_go_73 : decode cX9_go 73 = .ok (.istore 6, 2) := by decide +kernel
theorem dX9_go_75 : decode cX9_go 75 = .ok (.aload_n 0, 1) := by decide +kernel
theorem dX9_go_76 : decode cX9_go 76 = .ok (.getfield 93, 3) := by decide +kernel
theorem dX9_go_79 : decode cX9_go 79 = .ok (.iload 5, 2) := by decide +kernel
theorem dX9_go_81 : decode cX9_go 81 = .ok (.iaload, 1) := by decide +kernel
theorem dX9_go_82 : decode cX9_go 82 = .ok (.istore 7, 2) := by decide +kernel
theorem dX9_go_84 : decode cX9_go 84 = .ok (.aload_n 0, 1) := by decide +kernel
theorem dX9_go_85 : decode cX9_go 85 = .ok (.getfield 23, 3) := by decide +kernel
theorem dX9_go_88 : decode cX9_go 88 = .ok (.bipush 20, 2) := by decide +kernel
theorem dX9_go_90 : decode cX9_go 90 = .ok (.iload 6, 2) := by decide +kernel
theorem dX9_go_92 : decode cX9_go 92 = .ok (.imul, 1) := by decide +kernel
theorem dX9_go_93 : decode cX9_go 93 = .ok (.iload 7, 2) := by decide +kernel
theorem dX9_go_95 : decode cX9_go 95 = .ok (.iadd, 1) := by decide +kernel
theorem dX9_go_96 : decode cX9_go 96 = .ok (.iaload, 1) := by decide +kernel
theorem dX9_go_97 : decode cX9_go 97 = .ok (.istore 8, 2) := by decide +kernel
theorem dX9_go_99 : decode cX9_go 99 = .ok (.aload_n 0, 1) := by decide +kernel
theorem dX9_go_100 : decode cX9_go 100 = .ok (.getfield 20, 3) := by decide +kernel
theorem dX9_go_103 : decode cX9_go 103 = .ok (.bipush 20, 2) := by decide +kernel
theorem dX9_go_105 : decode cX9_go 105 = .ok (.iload 6, 2) := by decide +kernel
theorem dX9_go_107 : decode cX9_go 107 = .ok (.imul, 1) := by decide +kernel
theorem dX9_go_108 : decode cX9_go 108 = .ok (.iload 7, 2) := by decide +kernel
theorem dX9_go_110 : decode cX9_go 110 = .ok (.iadd, 1) := by decide +kernel
theorem dX9_go_111 : decode cX9_go 111 = .ok (.iaload, 1) := by decide +kernel
theorem dX9_go_112 : decode cX9_go 112 = .ok (.tableswitch 155 0 3 #[32, 40, 70, 109], 32) := by decide +kernel
theorem dX9_go_144 : decode cX9_go 144 = .ok (.aload_n 0, 1) := by decide +kernel
theorem dX9_go_145 : decode cX9_go 145 = .ok (.iconst 0, 1) := by decide +kernel
theorem dX9_go_146 : decode cX9_go 146 = .ok (.invokevirtual 254, 3) := by decide +kernel
theorem dX9_go_149 : decode cX9_go 149 = .ok (.goto 140, 3) := by decide +kernel
theorem dX9_go_152 : decode cX9_go 152 = .ok (.aload_n 0, 1) := by decide +kernel
theorem dX9_go_153 : decode cX9_go 153 = .ok (.iload_n 2, 1) := by decide +kernel
theorem dX9_go_154 : decode cX9_go 154 = .ok (.iconst 2, 1) := by decide +kernel
theorem dX9_go_155 : decode cX9_go 155 = .ok (.iload 4, 2) := by decide +kernel
theorem dX9_go_157 : decode cX9_go 157 = .ok (.bipush 16, 2) := by decide +kernel
theorem dX9_go_159 : decode cX9_go 159 = .ok (.irem, 1) := by decide +kernel
theorem dX9_go_160 : decode cX9_go 160 = .ok (.imul, 1) := by decide +kernel
theorem dX9_go_161 : decode cX9_go 161 = .ok (.ishr, 1) := by decide +kernel
theorem dX9_go_162 : decode cX9_go 162 = .ok (.iconst 3, 1) := by decide +kernel
theorem dX9_go_163 : decode cX9_go 163 = .ok (.iand, 1) := by decide +kernel
theorem dX9_go_164 : decode cX9_go 164 = .ok (.aload_n 0, 1) := by decide +kernel
theorem dX9_go_165 : decode cX9_go 165 = .ok (.iload 6, 2) := by decide +kernel
theorem dX9_go_167 : decode cX9_go 167 = .ok (.iload 7, 2) := by decide +kernel
theorem dX9_go_169 : decode cX9_go 169 = .ok (.invokevirtual 172, 3) := by decide +kernel
theorem dX9_go_172 : decode cX9_go 172 = .ok (.irem, 1) := by decide +kernel
theorem dX9_go_173 : decode cX9_go 173 = .ok (.invokevirtual 254, 3) := by decide +kernel
theorem dX9_go_176 : decode cX9_go 176 = .ok (.iinc 4 1, 3) := by decide +kernel
theorem dX9_go_179 : decode cX9_go 179 = .ok (.goto 110, 3) := by decide +kernel
theorem dX9_go_182 : decode cX9_go 182 = .ok (.aload_n 0, 1) := by decide +kernel
theorem dX9_go_183 : decode cX9_go 183 = .ok (.iload 8, 2) := by decide +kernel
theorem dX9_go_185 : decode cX9_go 185 = .ok (.invokevirtual 208, 3) := by decide +kernel
theorem dX9_go_188 : decode cX9_go 188 = .ok (.ifCond .eq 12, 3) := by decide +kernel
theorem dX9_go_191 : decode cX9_go 191 = .ok (.aload_n 0, 1) := by decide +kernel
theorem dX9_go_192 : decode cX9_go 192 = .ok (.getfield 211, 3) := by decide +kernel
theorem dX9_go_195 : decode cX9_go 195 = .ok (.bipush 30, 2) := by decide +kernel
theorem dX9_go_197 : decode cX9_go 197 = .ok (.if_icmp .ne 15, 3) := by decide +kernel
theorem dX9_go_200 : decode cX9_go 200 = .ok (.aload_n 0, 1) := by decide +kernel
theorem dX9_go_201 : decode cX9_go 201 = .ok (.iconst 4, 1) := by decide +kernel
theorem dX9_go_202 : decode cX9_go 202 = .ok (.putfield 238, 3) := by decide +kernel
theorem dX9_go_205 : decode cX9_go 205 = .ok (.aload_n 0, 1) := by decide +kernel
theorem dX9_go_206 : decode cX9_go 206 = .ok (.invokevirtual 235, 3) := by decide +kernel
theorem dX9_go_209 : decode cX9_go 209 = .ok (.goto 80, 3) := by decide +kernel
theorem dX9_go_212 : decode cX9_go 212 = .ok (.aload_n 0, 1) := by decide +kernel
theorem dX9_go_213 : decode cX9_go 213 = .ok (.iload 8, 2) := by decide +kernel
theorem dX9_go_215 : decode cX9_go 215 = .ok (.invokevirtual 247, 3) := by decide +kernel
theorem dX9_go_218 : decode cX9_go 218 = .ok (.goto 71, 3) := by decide +kernel
theorem dX9_go_221 : decode cX9_go 221 = .ok (.aload_n 0, 1) := by decide +kernel
theorem dX9_go_222 : decode cX9_go 222 = .ok (.iload 6, 2) := by decide +kernel
theorem dX9_go_224 : decode cX9_go 224 = .ok (.aload_n 0, 1) := by decide +kernel
theorem dX9_go_225 : decode cX9_go 225 = .ok (.getfield 96, 3) := by decide +kernel
theorem dX9_go_228 : decode cX9_go 228 = .ok (.iload 5, 2) := by decide +kernel
theorem dX9_go_230 : decode cX9_go 230 = .ok (.laload, 1) := by decide +kernel
theorem dX9_go_231 : decode cX9_go 231 = .ok (.invokevirtual 250, 3) := by decide +kernel
theorem dX9_go_234 : decode cX9_go 234 = .ok (.aload_n 0, 1) := by decide +kernel
theorem dX9_go_235 : decode cX9_go 235 = .ok (.dup, 1) := by decide +kernel
theorem dX9_go_236 : decode cX9_go 236 = .ok (.getfield 211, 3) := by decide +kernel
theorem dX9_go_239 : decode cX9_go 239 = .ok (.iconst 1, 1) := by decide +kernel
theorem dX9_go_240 : decode cX9_go 240 = .ok (.isub, 1) := by decide +kernel
theorem dX9_go_241 : decode cX9_go 241 = .ok (.putfield 211, 3) := by decide +kernel
theorem dX9_go_244 : decode cX9_go 244 = .ok (.aload_n 0, 1) := by decide +kernel
theorem dX9_go_245 : decode cX9_go 245 = .ok (.getfield 211, 3) := by decide +kernel
theorem dX9_go_248 : decode cX9_go 248 = .ok (.ifCond .ne 11, 3) := by decide +kernel
theorem dX9_go_251 : decode cX9_go 251 = .ok (.aload_n 0, 1) := by decide +kernel
theorem dX9_go_252 : decode cX9_go 252 = .ok (.iconst 2, 1) := by decide +kernel
theorem dX9_go_253 : decode cX9_go 253 = .ok (.putfield 238, 3) := by decide +kernel
theorem dX9_go_256 : decode cX9_go 256 = .ok (.goto 33, 3) := by decide +kernel
theorem dX9_go_259 : decode cX9_go 259 = .ok (.aload_n 0, 1) := by decide +kernel
theorem dX9_go_260 : decode cX9_go 260 = .ok (.iconst 0, 1) := by decide +kernel
theorem dX9_go_261 : decode cX9_go 261 = .ok (.invokevirtual 254, 3) := by decide +kernel
theorem dX9_go_264 : decode cX9_go 264 = .ok (.goto 25, 3) := by decide +kernel
theorem dX9_go_267 : decode cX9_go 267 = .ok (.aload_n 0, 1) := by decide +kernel
theorem dX9_go_268 : decode cX9_go 268 = .ok (.iload 6, 2) := by decide +kernel
theorem dX9_go_270 : decode cX9_go 270 = .ok (.aload_n 0, 1) := by decide +kernel
theorem dX9_go_271 : decode cX9_go 271 = .ok (.getfield 96, 3) := by decide +kernel
theorem dX9_go_274 : decode cX9_go 274 = .ok (.iload 5, 2) := by decide +kernel
theorem dX9_go_276 : decode cX9_go 276 = .ok (.laload, 1) := by decide +kernel
theorem dX9_go_277 : decode cX9_go 277 = .ok (.invokevirtual 250, 3) := by decide +kernel
theorem dX9_go_280 : decode cX9_go 280 = .ok (.aload_n 0, 1) := by decide +kernel
theorem dX9_go_281 : decode cX9_go 281 = .ok (.iconst 3, 1) := by decide +kernel
theorem dX9_go_282 : decode cX9_go 282 = .ok (.putfield 238, 3) := by decide +kernel
theorem dX9_go_285 : decode cX9_go 285 = .ok (.aload_n 0, 1) := by decide +kernel
theorem dX9_go_286 : decode cX9_go 286 = .ok (.invokevirtual 235, 3) := by decide +kernel
theorem dX9_go_289 : decode cX9_go 289 = .ok (.goto (-257), 3) := by decide +kernel
theorem dX9_go_292 : decode cX9_go 292 = .ok (.iload_n 3, 1) := by decide +kernel
theorem dX9_go_293 : decode cX9_go 293 = .ok (.ireturn, 1) := by decide +kernel
def L_X9_go_32 (b1 : Int32) (b2 : Int32) (k : Int32 → Hp → Option (Int32 × Hp)) : Nat → Int32 → Int32 → Hp → Option (Int32 × Hp)
  | 0, _, _, _ => none
  | n + 1, x3, x4, H => if b1 ≤ x3 then k x3 H else if (gI H 0 0 27) = 1 then vl (x3 + (1 : Int32)) (fun (v7 : Int32) => hl (sI H 0 0 29 ((gI H 0 0 29) + 1)) (fun (H8 : Hp) => vl (((gI H8 0 0 28) - 1)) (fun (v9 : Int32) => gd v9 30 (vl ((gI H8 0 31 (Int32.toNatClampNeg v9))) (fun (v10 : Int32) => gd v9 30 (vl ((gI H8 0 32 (Int32.toNatClampNeg v9))) (fun (v11 : Int32) => gd ((20 * v10) + v11) 160 (vl ((gI H8 0 5 (Int32.toNatClampNeg ((20 * v10) + v11)))) (fun (v12 : Int32) => gd ((20 * v10) + v11) 160 (vl (gI H8 0 4 (Int32.toNatClampNeg ((20 * v10) + v11))) (fun (v13 : Int32) => if v13 = 0 then bnd (f_X9_goes 0 H8) (fun w48 H47 => L_X9_go_32 b1 b2 k n v7 x4 H47) else (if v13 = 1 then gb (decide (¬ 16 = (0 : Int32))) (bnd (f_X9_outs v10 v11 H8) (fun w43 H42 => gb (decide (¬ w43 = (0 : Int32))) (bnd (f_X9_goes (((b2 >>> ((2 * (x4 - x4 / 16 * 16)) &&& 31)) &&& 3) - ((b2 >>> ((2 * (x4 - x4 / 16 * 16)) &&& 31)) &&& 3) / w43 * w43) H42) (fun w45 H44 => vl (x4 + (1 : Int32)) (fun (v46 : Int32) => L_X9_go_32 b1 b2 k n v7 v46 H44))))) else (if v13 = 2 then bnd (f_X9_isDone v12 H8) (fun w31 H30 => if w31 = 0 then hl (sI H30 0 0 27 4) (fun (H33 : Hp) => bnd (f_X9_allGo H33) (fun w35 H34 => L_X9_go_32 b1 b2 k n v7 x4 H34)) else if (gI H30 0 0 28) = 30 then hl (sI H30 0 0 27 4) (fun (H39 : Hp) => bnd (f_X9_allGo H39) (fun w41 H40 => L_X9_go_32 b1 b2 k n v7 x4 H40)) else bnd (f_X9_comes v12 H30) (fun w38 H37 => L_X9_go_32 b1 b2 k n v7 x4 H37)) else (if v13 = 3 then gd v9 30 (bnd (f_X9_ends v10 (gJ H8 0 33 (Int32.toNatClampNeg v9)) H8) (fun w24 H23 => hl (sI H23 0 0 28 ((gI H23 0 0 28) - 1)) (fun (H25 : Hp) => if (gI H25 0 0 28) = 0 then hl (sI H25 0 0 27 2) (fun (H29 : Hp) => L_X9_go_32 b1 b2 k n v7 x4 H29) else bnd (f_X9_goes 0 H25) (fun w28 H27 => L_X9_go_32 b1 b2 k n v7 x4 H27)))) else (gd v9 30 (bnd (f_X9_ends v10 (gJ H8 0 33 (Int32.toNatClampNeg v9)) H8) (fun w19 H18 => hl (sI H18 0 0 27 3) (fun (H20 : Hp) => bnd (f_X9_allGo H20) (fun w22 H21 => L_X9_go_32 b1 b2 k n v7 x4 H21))))))))))))))))))) else k x3 H
set_option maxRecDepth 100000 in
set_option maxHeartbeats 4000000 in
theorem sL_X9_go_32 {p : Program} {l : Launch} {e : Env} {s : State} {m : MethodId} {args : Array Value} {below : List Frame} {meth : Method} {c : Code} {A : Nat → Prop} {D : va_G} {K4 : kQ} {ad : Nat → Nat → Nat} {nr : Nat} {b1 : Int32} {b2 : Int32} {k : Int32 → Hp → Option (Int32 × Hp)} {res : Int32 × Hp} (hC : Cx p s m args c A s.heap D K4 9 RX9 cX9_go) (hret : meth.sig.returnType = (some .int) ∧ meth.locks = false) (hk : ∀ (z3 : Int32) (H : Hp), k z3 H = some res → V p l e ({ frames := 2, cells := 0, slots := 0, locals := 49 }) s m args below meth c A s.heap (QI below args s A D K4 ad nr res) D K4 ad nr 9 292 [(3, .int z3)] [] H) : ∀ (n : Nat) (x3 : Int32) (x4 : Int32) (H : Hp), L_X9_go_32 b1 b2 k n x3 x4 H = some res → V p l e ({ frames := 2, cells := 0, slots := 0, locals := 49 }) s m args below meth c A s.heap (QI below args s A D K4 ad nr res) D K4 ad nr 9 32 [(0, .ref (ad 0 0)), (1, .int b1), (2, .int b2), (3, .int x3), (4, .int x4)] [] H := by
  intro n
  induction n with
  | zero => intro x3 x4 H h; exact nomatch (show (none : Option (Int32 × Hp)) = some res from h)
  | succ n ih =>
    intro x3 x4 H h
    rw [L_X9_go_32] at h
    refine V_iload_n hC 3 dX9_go_32 rfl ?_
    refine V_iload_n hC 1 dX9_go_33 rfl ?_
    refine V_icmp_ge (tgt := 292) hC dX9_go_34 (by decide) (fun c5 => ?_) (fun c5 => ?_)
    · have h := it_pos c5 h
      refine V_lv (lv' := [(3, .int x3)]) [3] rfl ?_
      exact hk x3 H h
    · have h := it_neg c5 h
      refine V_aload_n hC 0 dX9_go_37 rfl ?_
      refine V_getI (g := 0) (k := 0) hC 9 27 fl_X9_238 rfl rfl rfl dX9_go_38 ?_
      refine V_iconst (v := 1) hC dX9_go_41 (by decide) ?_
      refine V_icmp_ne (tgt := 292) hC dX9_go_42 (by decide) (fun c6 => ?_) (fun c6 => ?_)
      · have h := it_neg c6 h
        refine V_lv (lv' := [(3, .int x3)]) [3] rfl ?_
        exact hk x3 H h
      · have h := it_pos c6 h
        refine V_vi h (fun v7 hvv7 h => ?_)
        refine V_iinc (v := v7) (lv' := [(3, .int v7), (0, .ref (ad 0 0)), (1, .int b1), (2, .int b2), (4, .int x4)]) hC 3 dX9_go_45 rfl hvv7.symm (Nat.le_of_ble_eq_true rfl) rfl ?_
        refine V_aload_n hC 1 dX9_go_48 rfl ?_
        refine V_dup hC dX9_go_49 rfl ?_
        refine V_getI (g := 0) (k := 0) hC 9 29 fl_X9_241 rfl rfl rfl dX9_go_50 ?_
        refine V_iconst (v := 1) hC dX9_go_53 (by decide) ?_
        refine V_iadd hC dX9_go_54 ?_
        refine V_putI (g := 0) (k := 0) hC 9 29 .int fw_X9_241 rfl rfl rfl rfl rfl dX9_go_55 ?_
        refine V_hl h (fun H8 h => ?_)
        refine V_aload_n hC 1 dX9_go_58 rfl ?_
        refine V_getI (g := 0) (k := 0) hC 9 28 fl_X9_211 rfl rfl rfl dX9_go_59 ?_
        refine V_iconst (v := 1) hC dX9_go_62 (by decide) ?_
        refine V_isub hC dX9_go_63 ?_
        refine V_vlI h (fun v9 h => ?_)
        refine V_istore (lv' := [(5, .int v9), (3, .int v7), (0, .ref (ad 0 0)), (1, .int b1), (2, .int b2), (4, .int x4)]) hC dX9_go_64 (Nat.le_of_ble_eq_true rfl) rfl ?_
        refine V_aload_n hC 2 dX9_go_66 rfl ?_
        refine V_getR (g := 0) (k := 0) (g' := 0) (k' := 31) hC 9 31 fl_X9_90 rfl rfl rfl rfl dX9_go_67 ?_
        refine V_iload hC 0 dX9_go_70 rfl ?_
        obtain ⟨hi, h⟩ := gd_some h
        refine V_iald (g := 0) (k := 31) hC rfl rfl hi dX9_go_72 ?_
        refine V_vlI h (fun v10 h => ?_)
        refine V_istore (lv' := [(6, .int v10), (5, .int v9), (3, .int v7), (0, .ref (ad 0 0)), (1, .int b1), (2, .int b2), (4, .int x4)]) hC dX9_go_73 (Nat.le_of_ble_eq_true rfl) rfl ?_
        refine V_aload_n hC 3 dX9_go_75 rfl ?_
        refine V_getR (g := 0) (k := 0) (g' := 0) (k' := 32) hC 9 32 fl_X9_93 rfl rfl rfl rfl dX9_go_76 ?_
        refine V_iload hC 1 dX9_go_79 rfl ?_
        obtain ⟨hi, h⟩ := gd_some h
        refine V_iald (g := 0) (k := 32) hC rfl rfl hi dX9_go_81 ?_
        refine V_vlI h (fun v11 h => ?_)
        refine V_istore (lv' := [(7, .int v11), (6, .int v10), (5, .int v9), (3, .int v7), (0, .ref (ad 0 0)), (1, .int b1), (2, .int b2), (4, .int x4)]) hC dX9_go_82 (Nat.le_of_ble_eq_true rfl) rfl ?_
        refine V_aload_n hC 4 dX9_go_84 rfl ?_
        refine V_getR (g := 0) (k := 0) (g' := 0) (k' := 5) hC 9 5 fl_X9_23 rfl rfl rfl rfl dX9_go_85 ?_
        refine V_bipush (v := 20) hC dX9_go_88 (by decide) ?_
        refine V_iload hC 1 dX9_go_90 rfl ?_
        refine V_imul hC dX9_go_92 ?_
        refine V_iload hC 0 dX9_go_93 rfl ?_
        refine V_iadd hC dX9_go_95 ?_
        obtain ⟨hi, h⟩ := gd_some h
        refine V_iald (g := 0) (k := 5) hC rfl rfl hi dX9_go_96 ?_
        refine V_vlI h (fun v12 h => ?_)
        refine V_istore (lv' := [(8, .int v12), (7, .int v11), (6, .int v10), (5, .int v9), (3, .int v7), (0, .ref (ad 0 0)), (1, .int b1), (2, .int b2), (4, .int x4)]) hC dX9_go_97 (Nat.le_of_ble_eq_true rfl) rfl ?_
        refine V_aload_n hC 5 dX9_go_99 rfl ?_
        refine V_getR (g := 0) (k := 0) (g' := 0) (k' := 4) hC 9 4 fl_X9_20 rfl rfl rfl rfl dX9_go_100 ?_
        refine V_bipush (v := 20) hC dX9_go_103 (by decide) ?_
        refine V_iload hC 2 dX9_go_105 rfl ?_
        refine V_imul hC dX9_go_107 ?_
        refine V_iload hC 1 dX9_go_108 rfl ?_
        refine V_iadd hC dX9_go_110 ?_
        obtain ⟨hi, h⟩ := gd_some h
        refine V_iald (g := 0) (k := 4) hC rfl rfl hi dX9_go_111 ?_
        refine V_vlI h (fun v13 h => ?_)
        by_cases c14 : v13 = 0
        · have h := it_pos c14 h
          refine V_tabE c14 ?_
          refine V_tabIn (tgt := 144) hC dX9_go_112 (by decide) (by decide) rfl (by decide) ?_
          refine V_aload_n hC 5 dX9_go_144 rfl ?_
          refine V_iconst (v := 0) hC dX9_go_145 (by decide) ?_
          obtain ⟨w48, H47, hc, h⟩ := bnd_some h
          refine V_callu (g := 0) (k := 0) (As := [.int 0]) (st := []) hC (c_X9_goes l hc) rfl ml_X9_254 ⟨Nat.le_of_ble_eq_true rfl, Nat.le_of_ble_eq_true rfl⟩ rfl rfl rfl (Nat.le_of_ble_eq_true rfl) dX9_go_146 ?_
          refine V_goto (tgt := 289) hC dX9_go_149 (by decide) ?_
          refine V_goto (tgt := 32) hC dX9_go_289 (by decide) ?_
          refine V_lv (lv' := [(0, .ref (ad 0 0)), (1, .int b1), (2, .int b2), (3, .int v7), (4, .int x4)]) [5, 6, 7, 4, 8] rfl ?_
          exact ih v7 x4 H47 h
        · have h := it_neg c14 h
          by_cases c15 : v13 = 1
          · have h := it_pos c15 h
            refine V_tabE c15 ?_
            refine V_tabIn (tgt := 152) hC dX9_go_112 (by decide) (by decide) rfl (by decide) ?_
            refine V_aload_n hC 5 dX9_go_152 rfl ?_
            refine V_iload_n hC 7 dX9_go_153 rfl ?_
            refine V_iconst (v := 2) hC dX9_go_154 (by decide) ?_
            refine V_iload hC 8 dX9_go_155 rfl ?_
            refine V_bipush (v := 16) hC dX9_go_157 (by decide) ?_
            obtain ⟨hz, h⟩ := gb_some h
            refine V_irem hC dX9_go_159 (of_decide_eq_true hz) ?_
            refine V_imul hC dX9_go_160 ?_
            refine V_ishr hC dX9_go_161 ?_
            refine V_iconst (v := 3) hC dX9_go_162 (by decide) ?_
            refine V_iand hC dX9_go_163 ?_
            refine V_aload_n hC 5 dX9_go_164 rfl ?_
            refine V_iload hC 2 dX9_go_165 rfl ?_
            refine V_iload hC 1 dX9_go_167 rfl ?_
            obtain ⟨w43, H42, hc, h⟩ := bnd_some h
            refine V_calli (g := 0) (k := 0) (As := [.int v10, .int v11]) (st := [.int ((b2 >>> ((2 * (x4 - x4 / 16 * 16)) &&& 31)) &&& 3), .ref (ad 0 0)]) hC (c_X9_outs l hc) rfl ml_X9_172 ⟨Nat.le_of_ble_eq_true rfl, Nat.le_of_ble_eq_true rfl⟩ rfl rfl rfl (Nat.le_of_ble_eq_true rfl) dX9_go_169 ?_
            obtain ⟨hz, h⟩ := gb_some h
            refine V_irem hC dX9_go_172 (of_decide_eq_true hz) ?_
            obtain ⟨w45, H44, hc, h⟩ := bnd_some h
            refine V_callu (g := 0) (k := 0) (As := [.int (((b2 >>> ((2 * (x4 - x4 / 16 * 16)) &&& 31)) &&& 3) - ((b2 >>> ((2 * (x4 - x4 / 16 * 16)) &&& 31)) &&& 3) / w43 * w43)]) (st := []) hC (c_X9_goes l hc) rfl ml_X9_254 ⟨Nat.le_of_ble_eq_true rfl, Nat.le_of_ble_eq_true rfl⟩ rfl rfl rfl (Nat.le_of_ble_eq_true rfl) dX9_go_173 ?_
            refine V_vi h (fun v46 hvv46 h => ?_)
            refine V_iinc (v := v46) (lv' := [(4, .int v46), (8, .int v12), (7, .int v11), (6, .int v10), (5, .int v9), (3, .int v7), (0, .ref (ad 0 0)), (1, .int b1), (2, .int b2)]) hC 8 dX9_go_176 rfl hvv46.symm (Nat.le_of_ble_eq_true rfl) rfl ?_
            refine V_goto (tgt := 289) hC dX9_go_179 (by decide) ?_
            refine V_goto (tgt := 32) hC dX9_go_289 (by decide) ?_
            refine V_lv (lv' := [(0, .ref (ad 0 0)), (1, .int b1), (2, .int b2), (3, .int v7), (4, .int v46)]) [6, 7, 8, 5, 0] rfl ?_
            exact ih v7 v46 H44 h
          · have h := it_neg c15 h
            by_cases c16 : v13 = 2
            · have h := it_pos c16 h
              refine V_tabE c16 ?_
              refine V_tabIn (tgt := 182) hC dX9_go_112 (by decide) (by decide) rfl (by decide) ?_
              refine V_aload_n hC 5 dX9_go_182 rfl ?_
              refine V_iload hC 0 dX9_go_183 rfl ?_
              obtain ⟨w31, H30, hc, h⟩ := bnd_some h
              refine V_calli (g := 0) (k := 0) (As := [.int v12]) (st := []) hC (c_X9_isDone l hc) rfl ml_X9_208 ⟨Nat.le_of_ble_eq_true rfl, Nat.le_of_ble_eq_true rfl⟩ rfl rfl rfl (Nat.le_of_ble_eq_true rfl) dX9_go_185 ?_
              refine V_if_eq (tgt := 200) hC dX9_go_188 (by decide) (fun c32 => ?_) (fun c32 => ?_)
              · have h := it_pos c32 h
                refine V_aload_n hC 5 dX9_go_200 rfl ?_
                refine V_iconst (v := 4) hC dX9_go_201 (by decide) ?_
                refine V_putI (g := 0) (k := 0) hC 9 27 .int fw_X9_238 rfl rfl rfl rfl rfl dX9_go_202 ?_
                refine V_hl h (fun H33 h => ?_)
                refine V_aload_n hC 5 dX9_go_205 rfl ?_
                obtain ⟨w35, H34, hc, h⟩ := bnd_some h
                refine V_callu (g := 0) (k := 0) (As := []) (st := []) hC (c_X9_allGo l hc) rfl ml_X9_235 ⟨Nat.le_of_ble_eq_true rfl, Nat.le_of_ble_eq_true rfl⟩ rfl rfl rfl (Nat.le_of_ble_eq_true rfl) dX9_go_206 ?_
                refine V_goto (tgt := 289) hC dX9_go_209 (by decide) ?_
                refine V_goto (tgt := 32) hC dX9_go_289 (by decide) ?_
                refine V_lv (lv' := [(0, .ref (ad 0 0)), (1, .int b1), (2, .int b2), (3, .int v7), (4, .int x4)]) [5, 6, 7, 4, 8] rfl ?_
                exact ih v7 x4 H34 h
              · have h := it_neg c32 h
                refine V_aload_n hC 5 dX9_go_191 rfl ?_
                refine V_getI (g := 0) (k := 0) hC 9 28 fl_X9_211 rfl rfl rfl dX9_go_192 ?_
                refine V_bipush (v := 30) hC dX9_go_195 (by decide) ?_
                refine V_icmp_ne (tgt := 212) hC dX9_go_197 (by decide) (fun c36 => ?_) (fun c36 => ?_)
                · have h := it_neg c36 h
                  refine V_aload_n hC 5 dX9_go_212 rfl ?_
                  refine V_iload hC 0 dX9_go_213 rfl ?_
                  obtain ⟨w38, H37, hc, h⟩ := bnd_some h
                  refine V_callu (g := 0) (k := 0) (As := [.int v12]) (st := []) hC (c_X9_comes l hc) rfl ml_X9_247 ⟨Nat.le_of_ble_eq_true rfl, Nat.le_of_ble_eq_true rfl⟩ rfl rfl rfl (Nat.le_of_ble_eq_true rfl) dX9_go_215 ?_
                  refine V_goto (tgt := 289) hC dX9_go_218 (by decide) ?_
                  refine V_goto (tgt := 32) hC dX9_go_289 (by decide) ?_
                  refine V_lv (lv' := [(0, .ref (ad 0 0)), (1, .int b1), (2, .int b2), (3, .int v7), (4, .int x4)]) [5, 6, 7, 4, 8] rfl ?_
                  exact ih v7 x4 H37 h
                · have h := it_pos c36 h
                  refine V_aload_n hC 5 dX9_go_200 rfl ?_
                  refine V_iconst (v := 4) hC dX9_go_201 (by decide) ?_
                  refine V_putI (g := 0) (k := 0) hC 9 27 .int fw_X9_238 rfl rfl rfl rfl rfl dX9_go_202 ?_
                  refine V_hl h (fun H39 h => ?_)
                  refine V_aload_n hC 5 dX9_go_205 rfl ?_
                  obtain ⟨w41, H40, hc, h⟩ := bnd_some h
                  refine V_callu (g := 0) (k := 0) (As := []) (st := []) hC (c_X9_allGo l hc) rfl ml_X9_235 ⟨Nat.le_of_ble_eq_true rfl, Nat.le_of_ble_eq_true rfl⟩ rfl rfl rfl (Nat.le_of_ble_eq_true rfl) dX9_go_206 ?_
                  refine V_goto (tgt := 289) hC dX9_go_209 (by decide) ?_
                  refine V_goto (tgt := 32) hC dX9_go_289 (by decide) ?_
                  refine V_lv (lv' := [(0, .ref (ad 0 0)), (1, .int b1), (2, .int b2), (3, .int v7), (4, .int x4)]) [5, 6, 7, 4, 8] rfl ?_
                  exact ih v7 x4 H40 h
            · have h := it_neg c16 h
              by_cases c17 : v13 = 3
              · have h := it_pos c17 h
                refine V_tabE c17 ?_
                refine V_tabIn (tgt := 221) hC dX9_go_112 (by decide) (by decide) rfl (by decide) ?_
                refine V_aload_n hC 5 dX9_go_221 rfl ?_
                refine V_iload hC 2 dX9_go_222 rfl ?_
                refine V_aload_n hC 5 dX9_go_224 rfl ?_
                refine V_getR (g := 0) (k := 0) (g' := 0) (k' := 33) hC 9 33 fl_X9_96 rfl rfl rfl rfl dX9_go_225 ?_
                refine V_iload hC 3 dX9_go_228 rfl ?_
                obtain ⟨hi, h⟩ := gd_some h
                refine V_lald (g := 0) (k := 33) hC rfl rfl hi dX9_go_230 ?_
                obtain ⟨w24, H23, hc, h⟩ := bnd_some h
                refine V_callu (g := 0) (k := 0) (As := [.int v10, .long (gJ H8 0 33 (Int32.toNatClampNeg v9))]) (st := []) hC (c_X9_ends l hc) rfl ml_X9_250 ⟨Nat.le_of_ble_eq_true rfl, Nat.le_of_ble_eq_true rfl⟩ rfl rfl rfl (Nat.le_of_ble_eq_true rfl) dX9_go_231 ?_
                refine V_aload_n hC 5 dX9_go_234 rfl ?_
                refine V_dup hC dX9_go_235 rfl ?_
                refine V_getI (g := 0) (k := 0) hC 9 28 fl_X9_211 rfl rfl rfl dX9_go_236 ?_
                refine V_iconst (v := 1) hC dX9_go_239 (by decide) ?_
                refine V_isub hC dX9_go_240 ?_
                refine V_putI (g := 0) (k := 0) hC 9 28 .int fw_X9_211 rfl rfl rfl rfl rfl dX9_go_241 ?_
                refine V_hl h (fun H25 h => ?_)
                refine V_aload_n hC 5 dX9_go_244 rfl ?_
                refine V_getI (g := 0) (k := 0) hC 9 28 fl_X9_211 rfl rfl rfl dX9_go_245 ?_
                refine V_if_ne (tgt := 259) hC dX9_go_248 (by decide) (fun c26 => ?_) (fun c26 => ?_)
                · have h := it_neg c26 h
                  refine V_aload_n hC 5 dX9_go_259 rfl ?_
                  refine V_iconst (v := 0) hC dX9_go_260 (by decide) ?_
                  obtain ⟨w28, H27, hc, h⟩ := bnd_some h
                  refine V_callu (g := 0) (k := 0) (As := [.int 0]) (st := []) hC (c_X9_goes l hc) rfl ml_X9_254 ⟨Nat.le_of_ble_eq_true rfl, Nat.le_of_ble_eq_true rfl⟩ rfl rfl rfl (Nat.le_of_ble_eq_true rfl) dX9_go_261 ?_
                  refine V_goto (tgt := 289) hC dX9_go_264 (by decide) ?_
                  refine V_goto (tgt := 32) hC dX9_go_289 (by decide) ?_
                  refine V_lv (lv' := [(0, .ref (ad 0 0)), (1, .int b1), (2, .int b2), (3, .int v7), (4, .int x4)]) [5, 6, 7, 4, 8] rfl ?_
                  exact ih v7 x4 H27 h
                · have h := it_pos c26 h
                  refine V_aload_n hC 5 dX9_go_251 rfl ?_
                  refine V_iconst (v := 2) hC dX9_go_252 (by decide) ?_
                  refine V_putI (g := 0) (k := 0) hC 9 27 .int fw_X9_238 rfl rfl rfl rfl rfl dX9_go_253 ?_
                  refine V_hl h (fun H29 h => ?_)
                  refine V_goto (tgt := 289) hC dX9_go_256 (by decide) ?_
                  refine V_goto (tgt := 32) hC dX9_go_289 (by decide) ?_
                  refine V_lv (lv' := [(0, .ref (ad 0 0)), (1, .int b1), (2, .int b2), (3, .int v7), (4, .int x4)]) [5, 6, 7, 4, 8] rfl ?_
                  exact ih v7 x4 H29 h
              · have h := it_neg c17 h
                have tc14 : Int32.toInt v13 ≠ (0 : Int) := i32ne c14
                have tc15 : Int32.toInt v13 ≠ (1 : Int) := i32ne c15
                have tc16 : Int32.toInt v13 ≠ (2 : Int) := i32ne c16
                have tc17 : Int32.toInt v13 ≠ (3 : Int) := i32ne c17
                refine V_tabOut (tgt := 267) hC dX9_go_112 (by omega) (by decide) ?_
                refine V_aload_n hC 5 dX9_go_267 rfl ?_
                refine V_iload hC 2 dX9_go_268 rfl ?_
                refine V_aload_n hC 5 dX9_go_270 rfl ?_
                refine V_getR (g := 0) (k := 0) (g' := 0) (k' := 33) hC 9 33 fl_X9_96 rfl rfl rfl rfl dX9_go_271 ?_
                refine V_iload hC 3 dX9_go_274 rfl ?_
                obtain ⟨hi, h⟩ := gd_some h
                refine V_lald (g := 0) (k := 33) hC rfl rfl hi dX9_go_276 ?_
                obtain ⟨w19, H18, hc, h⟩ := bnd_some h
                refine V_callu (g := 0) (k := 0) (As := [.int v10, .long (gJ H8 0 33 (Int32.toNatClampNeg v9))]) (st := []) hC (c_X9_ends l hc) rfl ml_X9_250 ⟨Nat.le_of_ble_eq_true rfl, Nat.le_of_ble_eq_true rfl⟩ rfl rfl rfl (Nat.le_of_ble_eq_true rfl) dX9_go_277 ?_
                refine V_aload_n hC 5 dX9_go_280 rfl ?_
                refine V_iconst (v := 3) hC dX9_go_281 (by decide) ?_
                refine V_putI (g := 0) (k := 0) hC 9 27 .int fw_X9_238 rfl rfl rfl rfl rfl dX9_go_282 ?_
                refine V_hl h (fun H20 h => ?_)
                refine V_aload_n hC 5 dX9_go_285 rfl ?_
                obtain ⟨w22, H21, hc, h⟩ := bnd_some h
                refine V_callu (g := 0) (k := 0) (As := []) (st := []) hC (c_X9_allGo l hc) rfl ml_X9_235 ⟨Nat.le_of_ble_eq_true rfl, Nat.le_of_ble_eq_true rfl⟩ rfl rfl rfl (Nat.le_of_ble_eq_true rfl) dX9_go_286 ?_
                refine V_goto (tgt := 32) hC dX9_go_289 (by decide) ?_
                refine V_lv (lv' := [(0, .ref (ad 0 0)), (1, .int b1), (2, .int b2), (3, .int v7), (4, .int x4)]) [5, 6, 7, 4, 8] rfl ?_
                exact ih v7 x4 H21 h
def f_X9_go (a1 : Int32) (a2 : Int32) (H : Hp) : Option (Int32 × Hp) := hl (sI H 0 0 34 0) (fun (H1 : Hp) => if a1 < 1 then some ((-1), H1) else if 10000 < a1 then some ((-1), H1) else if (gI H1 0 0 27) = 1 then L_X9_go_32 a1 a2 (fun (z49 : Int32) (H50 : Hp) => some (z49, H50)) FU 0 0 H1 else some ((-1), H1))
set_option maxRecDepth 100000 in
set_option maxHeartbeats 4000000 in
theorem s_X9_go {p : Program} {l : Launch} {e : Env} {s : State} {m : MethodId} {args : Array Value} {below : List Frame} {meth : Method} {c : Code} {A : Nat → Prop} {D : va_G} {K4 : kQ} {ad : Nat → Nat → Nat} {nr : Nat} {a1 : Int32} {a2 : Int32} {H : Hp} {res : Int32 × Hp} (hC : Cx p s m args c A s.heap D K4 9 RX9 cX9_go) (hret : meth.sig.returnType = (some .int) ∧ meth.locks = false) (h : f_X9_go a1 a2 H = some res) : V p l e ({ frames := 2, cells := 0, slots := 0, locals := 49 }) s m args below meth c A s.heap (QI below args s A D K4 ad nr res) D K4 ad nr 9 0 [(0, .ref (ad 0 0)), (1, .int a1), (2, .int a2)] [] H := by
  unfold f_X9_go at h
  refine V_aload_n hC 0 dX9_go_0 rfl ?_
  refine V_iconst (v := 0) hC dX9_go_1 (by decide) ?_
  refine V_putI (g := 0) (k := 0) hC 9 34 .int fw_X9_153 rfl rfl rfl rfl rfl dX9_go_2 ?_
  refine V_hl h (fun H1 h => ?_)
  refine V_iload_n hC 1 dX9_go_5 rfl ?_
  refine V_iconst (v := 1) hC dX9_go_6 (by decide) ?_
  refine V_icmp_lt (tgt := 25) hC dX9_go_7 (by decide) (fun c2 => ?_) (fun c2 => ?_)
  · have h := it_pos c2 h
    refine V_iconst (v := -1) hC dX9_go_25 (by decide) ?_
    exact V_iret hC hret dX9_go_26 h
  · have h := it_neg c2 h
    refine V_iload_n hC 1 dX9_go_10 rfl ?_
    refine V_sipush (v := 10000) hC dX9_go_11 (by decide) ?_
    refine V_icmp_gt (tgt := 25) hC dX9_go_14 (by decide) (fun c3 => ?_) (fun c3 => ?_)
    · have h := it_pos c3 h
      refine V_iconst (v := -1) hC dX9_go_25 (by decide) ?_
      exact V_iret hC hret dX9_go_26 h
    · have h := it_neg c3 h
      refine V_aload_n hC 0 dX9_go_17 rfl ?_
      refine V_getI (g := 0) (k := 0) hC 9 27 fl_X9_238 rfl rfl rfl dX9_go_18 ?_
      refine V_iconst (v := 1) hC dX9_go_21 (by decide) ?_
      refine V_icmp_eq (tgt := 27) hC dX9_go_22 (by decide) (fun c4 => ?_) (fun c4 => ?_)
      · have h := it_pos c4 h
        refine V_iconst (v := 0) hC dX9_go_27 (by decide) ?_
        refine V_istore_n (lv' := [(3, .int 0), (0, .ref (ad 0 0)), (1, .int a1), (2, .int a2)]) hC dX9_go_28 (Nat.le_of_ble_eq_true rfl) rfl ?_
        refine V_iconst (v := 0) hC dX9_go_29 (by decide) ?_
        refine V_istore (lv' := [(4, .int 0), (3, .int 0), (0, .ref (ad 0 0)), (1, .int a1), (2, .int a2)]) hC dX9_go_30 (Nat.le_of_ble_eq_true rfl) rfl ?_
        refine V_lv (lv' := [(0, .ref (ad 0 0)), (1, .int a1), (2, .int a2), (3, .int 0), (4, .int 0)]) [2, 3, 4, 1, 0] rfl ?_
        refine sL_X9_go_32 hC hret (fun z49 H50 h => ?_) _ 0 0 H1 h
        refine V_iload_n hC 0 dX9_go_292 rfl ?_
        exact V_iret hC hret dX9_go_293 h
      · have h := it_neg c4 h
        refine V_iconst (v := -1) hC dX9_go_25 (by decide) ?_
        exact V_iret hC hret dX9_go_26 h
theorem c_X9_go (l : Launch) {nr : Nat} {a1 : Int32} {a2 : Int32} {H : Hp} {x : Int32} {H' : Hp} (h : f_X9_go a1 a2 H = some (x, H')) : CI l nr yX9_go cX9_go 9 (some .int) 2 49 (fun ad => [.ref (ad 0 0), .int a1, .int a2]) H x H' := by
  intro D K4 ad sz
  refine Met.ofV (by decide) (Nat.le_of_ble_eq_true rfl) ?_
  intro p e s m args below meth c hC hret hsz
  subst hsz
  exact s_X9_go hC hret h
theorem dX9_run_0 : decode cX9_run 0 = .ok (.aload_n 0, 1) := by decide +kernel
theorem dX9_run_1 : decode cX9_run 1 = .ok (.iconst 0, 1) := by decide +kernel
theorem dX9_run_2 : decode cX9_run 2 = .ok (.putfield 153, 3) := by decide +kernel
theorem dX9_run_5 : decode cX9_run 5 = .ok (.iload_n 1, 1) := by decide +kernel
theorem dX9_run_6 : decode cX9_run 6 = .ok (.tableswitch 104 0 5 #[38, 43, 48, 53, 76, 99], 38) := by decide +kernel
theorem dX9_run_44 : decode cX9_run 44 = .ok (.aload_n 0, 1) := by decide +kernel
theorem dX9_run_45 : decode cX9_run 45 = .ok (.getfield 238, 3) := by decide +kernel
theorem dX9_run_48 : decode cX9_run 48 = .ok (.ireturn, 1) := by decide +kernel
theorem dX9_run_49 : decode cX9_run 49 = .ok (.aload_n 0, 1) := by decide +kernel
theorem dX9_run_50 : decode cX9_run 50 = .ok (.getfield 211, 3) := by decide +kernel
theorem dX9_run_53 : decode cX9_run 53 = .ok (.ireturn, 1) := by decide +kernel
theorem dX9_run_54 : decode cX9_run 54 = .ok (.aload_n 0, 1) := by decide +kernel
theorem dX9_run_55 : decode cX9_run 55 = .ok (.getfield 241, 3) := by decide +kernel
theorem dX9_run_58 : decode cX9_run 58 = .ok (.ireturn, 1) := by decide +kernel
theorem dX9_run_59 : decode cX9_run 59 = .ok (.aload_n 0, 1) := by decide +kernel
theorem dX9_run_60 : decode cX9_run 60 = .ok (.getfield 211, 3) := by decide +kernel
theorem dX9_run_63 : decode cX9_run 63 = .ok (.ifCond .ne 7, 3) := by decide +kernel
theorem dX9_run_66 : decode cX9_run 66 = .ok (.iconst (-1), 1) := by decide +kernel
theorem dX9_run_67 : decode cX9_run 67 = .ok (.goto 14, 3) := by decide +kernel
theorem dX9_run_70 : decode cX9_run 70 = .ok (.aload_n 0, 1) := by decide +kernel
theorem dX9_run_71 : decode cX9_run 71 = .ok (.getfield 90, 3) := by decide +kernel
theorem dX9_run_74 : decode cX9_run 74 = .ok (.aload_n 0, 1) := by decide +kernel
theorem dX9_run_75 : decode cX9_run 75 = .ok (.getfield 211, 3) := by decide +kernel
theorem dX9_run_78 : decode cX9_run 78 = .ok (.iconst 1, 1) := by decide +kernel
theorem dX9_run_79 : decode cX9_run 79 = .ok (.isub, 1) := by decide +kernel
theorem dX9_run_80 : decode cX9_run 80 = .ok (.iaload, 1) := by decide +kernel
theorem dX9_run_81 : decode cX9_run 81 = .ok (.ireturn, 1) := by decide +kernel
theorem dX9_run_82 : decode cX9_run 82 = .ok (.aload_n 0, 1) := by decide +kernel
theorem dX9_run_83 : decode cX9_run 83 = .ok (.getfield 211, 3) := by decide +kernel
theorem dX9_run_86 : decode cX9_run 86 = .ok (.ifCond .ne 7, 3) := by decide +kernel
theorem dX9_run_89 : decode cX9_run 89 = .ok (.iconst (-1), 1) := by decide +kernel
theorem dX9_run_90 : decode cX9_run 90 = .ok (.goto 14, 3) := by decide +kernel
theorem dX9_run_93 : decode cX9_run 93 = .ok (.aload_n 0, 1) := by decide +kernel
theorem dX9_run_94 : decode cX9_run 94 = .ok (.getfield 93, 3) := by decide +kernel
theorem dX9_run_97 : decode cX9_run 97 = .ok (.aload_n 0, 1) := by decide +kernel
theorem dX9_run_98 : decode cX9_run 98 = .ok (.getfield 211, 3) := by decide +kernel
theorem dX9_run_101 : decode cX9_run 101 = .ok (.iconst 1, 1) := by decide +kernel
theorem dX9_run_102 : decode cX9_run 102 = .ok (.isub, 1) := by decide +kernel
theorem dX9_run_103 : decode cX9_run 103 = .ok (.iaload, 1) := by decide +kernel
theorem dX9_run_104 : decode cX9_run 104 = .ok (.ireturn, 1) := by decide +kernel
theorem dX9_run_105 : decode cX9_run 105 = .ok (.aload_n 0, 1) := by decide +kernel
theorem dX9_run_106 : decode cX9_run 106 = .ok (.getfield 244, 3) := by decide +kernel
theorem dX9_run_109 : decode cX9_run 109 = .ok (.ireturn, 1) := by decide +kernel
theorem dX9_run_110 : decode cX9_run 110 = .ok (.iconst (-1), 1) := by decide +kernel
theorem dX9_run_111 : decode cX9_run 111 = .ok (.ireturn, 1) := by decide +kernel
def f_X9_run (a1 : Int32) (H : Hp) : Option (Int32 × Hp) := hl (sI H 0 0 34 0) (fun (H1 : Hp) => if a1 = 0 then some ((gI H1 0 0 27), H1) else (if a1 = 1 then some ((gI H1 0 0 28), H1) else (if a1 = 2 then some ((gI H1 0 0 29), H1) else (if a1 = 3 then if (gI H1 0 0 28) = 0 then some ((-1), H1) else gd ((gI H1 0 0 28) - 1) 30 (some ((gI H1 0 31 (Int32.toNatClampNeg ((gI H1 0 0 28) - 1))), H1)) else (if a1 = 4 then if (gI H1 0 0 28) = 0 then some ((-1), H1) else gd ((gI H1 0 0 28) - 1) 30 (some ((gI H1 0 32 (Int32.toNatClampNeg ((gI H1 0 0 28) - 1))), H1)) else (if a1 = 5 then some ((gI H1 0 0 30), H1) else (some ((-1), H1))))))))
set_option maxRecDepth 100000 in
set_option maxHeartbeats 4000000 in
theorem s_X9_run {p : Program} {l : Launch} {e : Env} {s : State} {m : MethodId} {args : Array Value} {below : List Frame} {meth : Method} {c : Code} {A : Nat → Prop} {D : va_G} {K4 : kQ} {ad : Nat → Nat → Nat} {nr : Nat} {a1 : Int32} {H : Hp} {res : Int32 × Hp} (hC : Cx p s m args c A s.heap D K4 2 RX9 cX9_run) (hret : meth.sig.returnType = (some .int) ∧ meth.locks = false) (h : f_X9_run a1 H = some res) : V p l e ({ frames := 0, cells := 0, slots := 0, locals := 0 }) s m args below meth c A s.heap (QI below args s A D K4 ad nr res) D K4 ad nr 2 0 [(0, .ref (ad 0 0)), (1, .int a1)] [] H := by
  unfold f_X9_run at h
  refine V_aload_n hC 0 dX9_run_0 rfl ?_
  refine V_iconst (v := 0) hC dX9_run_1 (by decide) ?_
  refine V_putI (g := 0) (k := 0) hC 9 34 .int fw_X9_153 rfl rfl rfl rfl rfl dX9_run_2 ?_
  refine V_hl h (fun H1 h => ?_)
  refine V_iload_n hC 1 dX9_run_5 rfl ?_
  by_cases c2 : a1 = 0
  · have h := it_pos c2 h
    refine V_tabE c2 ?_
    refine V_tabIn (tgt := 44) hC dX9_run_6 (by decide) (by decide) rfl (by decide) ?_
    refine V_aload_n hC 0 dX9_run_44 rfl ?_
    refine V_getI (g := 0) (k := 0) hC 9 27 fl_X9_238 rfl rfl rfl dX9_run_45 ?_
    exact V_iret hC hret dX9_run_48 h
  · have h := it_neg c2 h
    by_cases c3 : a1 = 1
    · have h := it_pos c3 h
      refine V_tabE c3 ?_
      refine V_tabIn (tgt := 49) hC dX9_run_6 (by decide) (by decide) rfl (by decide) ?_
      refine V_aload_n hC 0 dX9_run_49 rfl ?_
      refine V_getI (g := 0) (k := 0) hC 9 28 fl_X9_211 rfl rfl rfl dX9_run_50 ?_
      exact V_iret hC hret dX9_run_53 h
    · have h := it_neg c3 h
      by_cases c4 : a1 = 2
      · have h := it_pos c4 h
        refine V_tabE c4 ?_
        refine V_tabIn (tgt := 54) hC dX9_run_6 (by decide) (by decide) rfl (by decide) ?_
        refine V_aload_n hC 0 dX9_run_54 rfl ?_
        refine V_getI (g := 0) (k := 0) hC 9 29 fl_X9_241 rfl rfl rfl dX9_run_55 ?_
        exact V_iret hC hret dX9_run_58 h
      · have h := it_neg c4 h
        by_cases c5 : a1 = 3
        · have h := it_pos c5 h
          refine V_tabE c5 ?_
          refine V_tabIn (tgt := 59) hC dX9_run_6 (by decide) (by decide) rfl (by decide) ?_
          refine V_aload_n hC 0 dX9_run_59 rfl ?_
          refine V_getI (g := 0) (k := 0) hC 9 28 fl_X9_211 rfl rfl rfl dX9_run_60 ?_
          refine V_if_ne (tgt := 70) hC dX9_run_63 (by decide) (fun c9 => ?_) (fun c9 => ?_)
          · have h := it_neg c9 h
            refine V_aload_n hC 0 dX9_run_70 rfl ?_
            refine V_getR (g := 0) (k := 0) (g' := 0) (k' := 31) hC 9 31 fl_X9_90 rfl rfl rfl rfl dX9_run_71 ?_
            refine V_aload_n hC 0 dX9_run_74 rfl ?_
            refine V_getI (g := 0) (k := 0) hC 9 28 fl_X9_211 rfl rfl rfl dX9_run_75 ?_
            refine V_iconst (v := 1) hC dX9_run_78 (by decide) ?_
            refine V_isub hC dX9_run_79 ?_
            obtain ⟨hi, h⟩ := gd_some h
            refine V_iald (g := 0) (k := 31) hC rfl rfl hi dX9_run_80 ?_
            exact V_iret hC hret dX9_run_81 h
          · have h := it_pos c9 h
            refine V_iconst (v := -1) hC dX9_run_66 (by decide) ?_
            refine V_goto (tgt := 81) hC dX9_run_67 (by decide) ?_
            exact V_iret hC hret dX9_run_81 h
        · have h := it_neg c5 h
          by_cases c6 : a1 = 4
          · have h := it_pos c6 h
            refine V_tabE c6 ?_
            refine V_tabIn (tgt := 82) hC dX9_run_6 (by decide) (by decide) rfl (by decide) ?_
            refine V_aload_n hC 0 dX9_run_82 rfl ?_
            refine V_getI (g := 0) (k := 0) hC 9 28 fl_X9_211 rfl rfl rfl dX9_run_83 ?_
            refine V_if_ne (tgt := 93) hC dX9_run_86 (by decide) (fun c8 => ?_) (fun c8 => ?_)
            · have h := it_neg c8 h
              refine V_aload_n hC 0 dX9_run_93 rfl ?_
              refine V_getR (g := 0) (k := 0) (g' := 0) (k' := 32) hC 9 32 fl_X9_93 rfl rfl rfl rfl dX9_run_94 ?_
              refine V_aload_n hC 0 dX9_run_97 rfl ?_
              refine V_getI (g := 0) (k := 0) hC 9 28 fl_X9_211 rfl rfl rfl dX9_run_98 ?_
              refine V_iconst (v := 1) hC dX9_run_101 (by decide) ?_
              refine V_isub hC dX9_run_102 ?_
              obtain ⟨hi, h⟩ := gd_some h
              refine V_iald (g := 0) (k := 32) hC rfl rfl hi dX9_run_103 ?_
              exact V_iret hC hret dX9_run_104 h
            · have h := it_pos c8 h
              refine V_iconst (v := -1) hC dX9_run_89 (by decide) ?_
              refine V_goto (tgt := 104) hC dX9_run_90 (by decide) ?_
              exact V_iret hC hret dX9_run_104 h
          · have h := it_neg c6 h
            by_cases c7 : a1 = 5
            · have h := it_pos c7 h
              refine V_tabE c7 ?_
              refine V_tabIn (tgt := 105) hC dX9_run_6 (by decide) (by decide) rfl (by decide) ?_
              refine V_aload_n hC 0 dX9_run_105 rfl ?_
              refine V_getI (g := 0) (k := 0) hC 9 30 fl_X9_244 rfl rfl rfl dX9_run_106 ?_
              exact V_iret hC hret dX9_run_109 h
            · have h := it_neg c7 h
              have tc2 : Int32.toInt a1 ≠ (0 : Int) := i32ne c2
              have tc3 : Int32.toInt a1 ≠ (1 : Int) := i32ne c3
              have tc4 : Int32.toInt a1 ≠ (2 : Int) := i32ne c4
              have tc5 : Int32.toInt a1 ≠ (3 : Int) := i32ne c5
              have tc6 : Int32.toInt a1 ≠ (4 : Int) := i32ne c6
              have tc7 : Int32.toInt a1 ≠ (5 : Int) := i32ne c7
              refine V_tabOut (tgt := 110) hC dX9_run_6 (by omega) (by decide) ?_
              refine V_iconst (v := -1) hC dX9_run_110 (by decide) ?_
              exact V_iret hC hret dX9_run_111 h
theorem c_X9_run (l : Launch) {nr : Nat} {a1 : Int32} {H : Hp} {x : Int32} {H' : Hp} (h : f_X9_run a1 H = some (x, H')) : CI l nr yX9_run cX9_run 2 (some .int) 0 0 (fun ad => [.ref (ad 0 0), .int a1]) H x H' := by
  intro D K4 ad sz
  refine Met.ofV (by decide) (Nat.le_of_ble_eq_true rfl) ?_
  intro p e s m args below meth c hC hret hsz
  subst hsz
  exact s_X9_run hC hret h
