theorem dX7_countBeyond_0 : decode cX7_countBeyond 0 = .ok (.aload_n 0, 1) := by decide +kernel
theorem dX7_countBeyond_1 : decode cX7_countBeyond 1 = .ok (.getfield 37, 3) := by decide +kernel
theorem dX7_countBeyond_4 : decode cX7_countBeyond 4 = .ok (.getfield 80, 3) := by decide +kernel
theorem dX7_countBeyond_7 : decode cX7_countBeyond 7 = .ok (.iload_n 1, 1) := by decide +kernel
theorem dX7_countBeyond_8 : decode cX7_countBeyond 8 = .ok (.baload, 1) := by decide +kernel
theorem dX7_countBeyond_9 : decode cX7_countBeyond 9 = .ok (.ifCond .eq 7, 3) := by decide +kernel
theorem dX7_countBeyond_12 : decode cX7_countBeyond 12 = .ok (.lconst 1, 1) := by decide +kernel
theorem dX7_countBeyond_13 : decode cX7_countBeyond 13 = .ok (.goto 17, 3) := by decide +kernel
theorem dX7_countBeyond_16 : decode cX7_countBeyond 16 = .ok (.aload_n 0, 1) := by decide +kernel
theorem dX7_countBeyond_17 : decode cX7_countBeyond 17 = .ok (.getfield 9, 3) := by decide +kernel
theorem dX7_countBeyond_20 : decode cX7_countBeyond 20 = .ok (.aload_n 0, 1) := by decide +kernel
theorem dX7_countBeyond_21 : decode cX7_countBeyond 21 = .ok (.getfield 37, 3) := by decide +kernel
theorem dX7_countBeyond_24 : decode cX7_countBeyond 24 = .ok (.getfield 84, 3) := by decide +kernel
theorem dX7_countBeyond_27 : decode cX7_countBeyond 27 = .ok (.iload_n 1, 1) := by decide +kernel
theorem dX7_countBeyond_28 : decode cX7_countBeyond 28 = .ok (.iaload, 1) := by decide +kernel
theorem dX7_countBeyond_29 : decode cX7_countBeyond 29 = .ok (.laload, 1) := by decide +kernel
theorem dX7_countBeyond_30 : decode cX7_countBeyond 30 = .ok (.lreturn, 1) := by decide +kernel
def f_X7_countBeyond (r : Nat) (a1 : Int32) (H : Hp) : Option (Int64 × Hp) := gd a1 40 (if (gI H (r + 2) 16 (Int32.toNatClampNeg a1)) = 0 then gd a1 61 (gd (gI H (r + 2) 14 (Int32.toNatClampNeg a1)) 20 (some ((gJ H (r + 2) 18 (Int32.toNatClampNeg (gI H (r + 2) 14 (Int32.toNatClampNeg a1)))), H))) else some (1, H))
set_option maxRecDepth 100000 in
set_option maxHeartbeats 4000000 in
theorem s_X7_countBeyond {p : Program} {l : Launch} {e : Env} {s : State} {m : MethodId} {args : Array Value} {below : List Frame} {meth : Method} {c : Code} {A : Nat → Prop} {D : va_G} {K4 : kQ} {ad : Nat → Nat → Nat} {nr : Nat} {r : Nat} {a1 : Int32} {H : Hp} {res : Int64 × Hp} (hC : Cx p s m args c A s.heap D K4 2 RX7 cX7_countBeyond) (hret : meth.sig.returnType = (some .long) ∧ meth.locks = false) (hr_r : r < nr) (h : f_X7_countBeyond r a1 H = some res) : V p l e ({ frames := 0, cells := 0, slots := 0, locals := 0 }) s m args below meth c A s.heap (QJ below args s A D K4 ad nr res) D K4 ad nr 2 0 [(0, .ref (ad (r + 2) 2)), (1, .int a1)] [] H := by
  unfold f_X7_countBeyond at h
  refine V_aload_n hC 0 dX7_countBeyond_0 rfl ?_
  refine V_getR (g := (r + 2)) (k := 2) (g' := (r + 2)) (k' := 1) hC 7 0 fl_X7_37 (okR hr_r rfl) rfl rfl rfl dX7_countBeyond_1 ?_
  refine V_getR (g := (r + 2)) (k := 1) (g' := (r + 2)) (k' := 16) hC 3 8 fl_X7_80 (okR hr_r rfl) rfl rfl rfl dX7_countBeyond_4 ?_
  refine V_iload_n hC 1 dX7_countBeyond_7 rfl ?_
  obtain ⟨hi, h⟩ := gd_some h
  refine V_zald (g := (r + 2)) (k := 16) hC (okR hr_r rfl) rfl hi dX7_countBeyond_8 ?_
  refine V_if_eq (tgt := 16) hC dX7_countBeyond_9 (by decide) (fun c1 => ?_) (fun c1 => ?_)
  · have h := it_pos c1 h
    refine V_aload_n hC 0 dX7_countBeyond_16 rfl ?_
    refine V_getR (g := (r + 2)) (k := 2) (g' := (r + 2)) (k' := 18) hC 7 1 fl_X7_9 (okR hr_r rfl) rfl rfl rfl dX7_countBeyond_17 ?_
    refine V_aload_n hC 0 dX7_countBeyond_20 rfl ?_
    refine V_getR (g := (r + 2)) (k := 2) (g' := (r + 2)) (k' := 1) hC 7 0 fl_X7_37 (okR hr_r rfl) rfl rfl rfl dX7_countBeyond_21 ?_
    refine V_getR (g := (r + 2)) (k := 1) (g' := (r + 2)) (k' := 14) hC 3 6 fl_X7_84 (okR hr_r rfl) rfl rfl rfl dX7_countBeyond_24 ?_
    refine V_iload_n hC 1 dX7_countBeyond_27 rfl ?_
    obtain ⟨hi, h⟩ := gd_some h
    refine V_iald (g := (r + 2)) (k := 14) hC (okR hr_r rfl) rfl hi dX7_countBeyond_28 ?_
    obtain ⟨hi, h⟩ := gd_some h
    refine V_lald (g := (r + 2)) (k := 18) hC (okR hr_r rfl) rfl hi dX7_countBeyond_29 ?_
    exact V_lret hC hret dX7_countBeyond_30 h
  · have h := it_neg c1 h
    refine V_lconst (v := 1) hC dX7_countBeyond_12 (by decide) ?_
    refine V_goto (tgt := 30) hC dX7_countBeyond_13 (by decide) ?_
    exact V_lret hC hret dX7_countBeyond_30 h
theorem c_X7_countBeyond (l : Launch) {nr : Nat} {r : Nat} (hr_r : r < nr) {a1 : Int32} {H : Hp} {x : Int64} {H' : Hp} (h : f_X7_countBeyond r a1 H = some (x, H')) : CJ l nr yX7_countBeyond cX7_countBeyond 2 (some .long) 0 0 (fun ad => [.ref (ad (r + 2) 2), .int a1]) H x H' := by
  intro D K4 ad sz
  refine Met.ofV (by decide) (Nat.le_of_ble_eq_true rfl) ?_
  intro p e s m args below meth c hC hret hsz
  subst hsz
  exact s_X7_countBeyond hC hret hr_r h
theorem dX7_countFrom_0 : decode cX7_countFrom 0 = .ok (.aload_n 0, 1) := by decide +kernel
theorem dX7_countFrom_1 : decode cX7_countFrom 1 = .ok (.getfield 37, 3) := by decide +kernel
theorem dX7_countFrom_4 : decode cX7_countFrom 4 = .ok (.iload_n 1, 1) := by decide +kernel
theorem dX7_countFrom_5 : decode cX7_countFrom 5 = .ok (.invokevirtual 67, 3) := by decide +kernel
theorem dX7_countFrom_8 : decode cX7_countFrom 8 = .ok (.ifCond .eq 5, 3) := by decide +kernel
theorem dX7_countFrom_11 : decode cX7_countFrom 11 = .ok (.lconst 1, 1) := by decide +kernel
theorem dX7_countFrom_12 : decode cX7_countFrom 12 = .ok (.lreturn, 1) := by decide +kernel
theorem dX7_countFrom_13 : decode cX7_countFrom 13 = .ok (.lconst 0, 1) := by decide +kernel
theorem dX7_countFrom_14 : decode cX7_countFrom 14 = .ok (.lstore_n 2, 1) := by decide +kernel
theorem dX7_countFrom_15 : decode cX7_countFrom 15 = .ok (.iconst 0, 1) := by decide +kernel
theorem dX7_countFrom_16 : decode cX7_countFrom 16 = .ok (.istore 4, 2) := by decide +kernel
theorem dX7_countFrom_18 : decode cX7_countFrom 18 = .ok (.iload 4, 2) := by decide +kernel
theorem dX7_countFrom_20 : decode cX7_countFrom 20 = .ok (.aload_n 0, 1) := by decide +kernel
theorem dX7_countFrom_21 : decode cX7_countFrom 21 = .ok (.getfield 37, 3) := by decide +kernel
theorem dX7_countFrom_24 : decode cX7_countFrom 24 = .ok (.getfield 71, 3) := by decide +kernel
theorem dX7_countFrom_27 : decode cX7_countFrom 27 = .ok (.iload_n 1, 1) := by decide +kernel
theorem dX7_countFrom_28 : decode cX7_countFrom 28 = .ok (.iaload, 1) := by decide +kernel
theorem dX7_countFrom_29 : decode cX7_countFrom 29 = .ok (.if_icmp .ge 43, 3) := by decide +kernel
theorem dX7_countFrom_32 : decode cX7_countFrom 32 = .ok (.aload_n 0, 1) := by decide +kernel
theorem dX7_countFrom_33 : decode cX7_countFrom 33 = .ok (.aload_n 0, 1) := by decide +kernel
theorem dX7_countFrom_34 : decode cX7_countFrom 34 = .ok (.getfield 37, 3) := by decide +kernel
theorem dX7_countFrom_37 : decode cX7_countFrom 37 = .ok (.getfield 74, 3) := by decide +kernel
theorem dX7_countFrom_40 : decode cX7_countFrom 40 = .ok (.iload_n 1, 1) := by decide +kernel
theorem dX7_countFrom_41 : decode cX7_countFrom 41 = .ok (.iconst 4, 1) := by decide +kernel
theorem dX7_countFrom_42 : decode cX7_countFrom 42 = .ok (.imul, 1) := by decide +kernel
theorem dX7_countFrom_43 : decode cX7_countFrom 43 = .ok (.iload 4, 2) := by decide +kernel
theorem dX7_countFrom_45 : decode cX7_countFrom 45 = .ok (.iadd, 1) := by decide +kernel
theorem dX7_countFrom_46 : decode cX7_countFrom 46 = .ok (.iaload, 1) := by decide +kernel
theorem dX7_countFrom_47 : decode cX7_countFrom 47 = .ok (.invokevirtual 77, 3) := by decide +kernel
theorem dX7_countFrom_50 : decode cX7_countFrom 50 = .ok (.lstore 5, 2) := by decide +kernel
theorem dX7_countFrom_52 : decode cX7_countFrom 52 = .ok (.lload 5, 2) := by decide +kernel
theorem dX7_countFrom_54 : decode cX7_countFrom 54 = .ok (.lconst 0, 1) := by decide +kernel
theorem dX7_countFrom_55 : decode cX7_countFrom 55 = .ok (.lcmp, 1) := by decide +kernel
theorem dX7_countFrom_56 : decode cX7_countFrom 56 = .ok (.ifCond .ne 5, 3) := by decide +kernel
theorem dX7_countFrom_59 : decode cX7_countFrom 59 = .ok (.lconst 0, 1) := by decide +kernel
theorem dX7_countFrom_60 : decode cX7_countFrom 60 = .ok (.lreturn, 1) := by decide +kernel
theorem dX7_countFrom_61 : decode cX7_countFrom 61 = .ok (.lload_n 2, 1) := by decide +kernel
theorem dX7_countFrom_62 : decode cX7_countFrom 62 = .ok (.lload 5, 2) := by decide +kernel
theorem dX7_countFrom_64 : decode cX7_countFrom 64 = .ok (.ladd, 1) := by decide +kernel
theorem dX7_countFrom_65 : decode cX7_countFrom 65 = .ok (.lstore_n 2, 1) := by decide +kernel
theorem dX7_countFrom_66 : decode cX7_countFrom 66 = .ok (.iinc 4 1, 3) := by decide +kernel
theorem dX7_countFrom_69 : decode cX7_countFrom 69 = .ok (.goto (-51), 3) := by decide +kernel
theorem dX7_countFrom_72 : decode cX7_countFrom 72 = .ok (.lload_n 2, 1) := by decide +kernel
theorem dX7_countFrom_73 : decode cX7_countFrom 73 = .ok (.lreturn, 1) := by decide +kernel
def L_X7_countFrom_18 (r : Nat) (b1 : Int32) (k : Int64 → Hp → Option (Int64 × Hp)) : Nat → Int64 → Int32 → Hp → Option (Int64 × Hp)
  | 0, _, _, _ => none
  | n + 1, x2, x4, H => gd b1 20 (if (gI H (r + 2) 10 (Int32.toNatClampNeg b1)) ≤ x4 then k x2 H else gd ((b1 * 4) + x4) 80 (bnd (f_X7_countBeyond r (gI H (r + 2) 12 (Int32.toNatClampNeg ((b1 * 4) + x4))) H) (fun w6 H5 => if (lg_cmp w6 0) = 0 then some (0, H5) else vl ((x2 + w6)) (fun (v8 : Int64) => vl (x4 + (1 : Int32)) (fun (v9 : Int32) => L_X7_countFrom_18 r b1 k n v8 v9 H5)))))
set_option maxRecDepth 100000 in
set_option maxHeartbeats 4000000 in
theorem sL_X7_countFrom_18 {p : Program} {l : Launch} {e : Env} {s : State} {m : MethodId} {args : Array Value} {below : List Frame} {meth : Method} {c : Code} {A : Nat → Prop} {D : va_G} {K4 : kQ} {ad : Nat → Nat → Nat} {nr : Nat} {r : Nat} {b1 : Int32} {k : Int64 → Hp → Option (Int64 × Hp)} {res : Int64 × Hp} (hC : Cx p s m args c A s.heap D K4 7 RX7 cX7_countFrom) (hret : meth.sig.returnType = (some .long) ∧ meth.locks = false) (hr_r : r < nr) (hk : ∀ (z2 : Int64) (H : Hp), k z2 H = some res → V p l e ({ frames := 1, cells := 0, slots := 0, locals := 21 }) s m args below meth c A s.heap (QJ below args s A D K4 ad nr res) D K4 ad nr 7 72 [(2, .long z2)] [] H) : ∀ (n : Nat) (x2 : Int64) (x4 : Int32) (H : Hp), L_X7_countFrom_18 r b1 k n x2 x4 H = some res → V p l e ({ frames := 1, cells := 0, slots := 0, locals := 21 }) s m args below meth c A s.heap (QJ below args s A D K4 ad nr res) D K4 ad nr 7 18 [(0, .ref (ad (r + 2) 2)), (1, .int b1), (2, .long x2), (4, .int x4)] [] H := by
  intro n
  induction n with
  | zero => intro x2 x4 H h; exact nomatch (show (none : Option (Int64 × Hp)) = some res from h)
  | succ n ih =>
    intro x2 x4 H h
    rw [L_X7_countFrom_18] at h
    refine V_iload hC 3 dX7_countFrom_18 rfl ?_
    refine V_aload_n hC 0 dX7_countFrom_20 rfl ?_
    refine V_getR (g := (r + 2)) (k := 2) (g' := (r + 2)) (k' := 1) hC 7 0 fl_X7_37 (okR hr_r rfl) rfl rfl rfl dX7_countFrom_21 ?_
    refine V_getR (g := (r + 2)) (k := 1) (g' := (r + 2)) (k' := 10) hC 3 2 fl_X7_71 (okR hr_r rfl) rfl rfl rfl dX7_countFrom_24 ?_
    refine V_iload_n hC 1 dX7_countFrom_27 rfl ?_
    obtain ⟨hi, h⟩ := gd_some h
    refine V_iald (g := (r + 2)) (k := 10) hC (okR hr_r rfl) rfl hi dX7_countFrom_28 ?_
    refine V_icmp_ge (tgt := 72) hC dX7_countFrom_29 (by decide) (fun c4 => ?_) (fun c4 => ?_)
    · have h := it_pos c4 h
      refine V_lv (lv' := [(2, .long x2)]) [2] rfl ?_
      exact hk x2 H h
    · have h := it_neg c4 h
      refine V_aload_n hC 0 dX7_countFrom_32 rfl ?_
      refine V_aload_n hC 0 dX7_countFrom_33 rfl ?_
      refine V_getR (g := (r + 2)) (k := 2) (g' := (r + 2)) (k' := 1) hC 7 0 fl_X7_37 (okR hr_r rfl) rfl rfl rfl dX7_countFrom_34 ?_
      refine V_getR (g := (r + 2)) (k := 1) (g' := (r + 2)) (k' := 12) hC 3 4 fl_X7_74 (okR hr_r rfl) rfl rfl rfl dX7_countFrom_37 ?_
      refine V_iload_n hC 1 dX7_countFrom_40 rfl ?_
      refine V_iconst (v := 4) hC dX7_countFrom_41 (by decide) ?_
      refine V_imul hC dX7_countFrom_42 ?_
      refine V_iload hC 3 dX7_countFrom_43 rfl ?_
      refine V_iadd hC dX7_countFrom_45 ?_
      obtain ⟨hi, h⟩ := gd_some h
      refine V_iald (g := (r + 2)) (k := 12) hC (okR hr_r rfl) rfl hi dX7_countFrom_46 ?_
      obtain ⟨w6, H5, hc, h⟩ := bnd_some h
      refine V_calll (g := (r + 2)) (k := 2) (As := [.int (gI H (r + 2) 12 (Int32.toNatClampNeg ((b1 * 4) + x4)))]) (st := []) hC (c_X7_countBeyond l (hr_r := hr_r) hc) rfl ml_X7_77 ⟨Nat.le_of_ble_eq_true rfl, Nat.le_of_ble_eq_true rfl⟩ (okR hr_r rfl) rfl rfl (Nat.le_of_ble_eq_true rfl) dX7_countFrom_47 ?_
      refine V_lstore (lv' := [(5, .long w6), (0, .ref (ad (r + 2) 2)), (1, .int b1), (2, .long x2), (4, .int x4)]) hC dX7_countFrom_50 (Nat.le_of_ble_eq_true rfl) rfl ?_
      refine V_lload hC 0 dX7_countFrom_52 rfl ?_
      refine V_lconst (v := 0) hC dX7_countFrom_54 (by decide) ?_
      refine V_lcmp hC dX7_countFrom_55 ?_
      refine V_if_ne (tgt := 61) hC dX7_countFrom_56 (by decide) (fun c7 => ?_) (fun c7 => ?_)
      · have h := it_neg c7 h
        refine V_lload_n hC 3 dX7_countFrom_61 rfl ?_
        refine V_lload hC 0 dX7_countFrom_62 rfl ?_
        refine V_ladd hC dX7_countFrom_64 ?_
        refine V_vlJ h (fun v8 h => ?_)
        refine V_lstore_n (lv' := [(2, .long v8), (5, .long w6), (0, .ref (ad (r + 2) 2)), (1, .int b1), (4, .int x4)]) hC dX7_countFrom_65 (Nat.le_of_ble_eq_true rfl) rfl ?_
        refine V_vi h (fun v9 hvv9 h => ?_)
        refine V_iinc (v := v9) (lv' := [(4, .int v9), (2, .long v8), (5, .long w6), (0, .ref (ad (r + 2) 2)), (1, .int b1)]) hC 4 dX7_countFrom_66 rfl hvv9.symm (Nat.le_of_ble_eq_true rfl) rfl ?_
        refine V_goto (tgt := 18) hC dX7_countFrom_69 (by decide) ?_
        refine V_lv (lv' := [(0, .ref (ad (r + 2) 2)), (1, .int b1), (2, .long v8), (4, .int v9)]) [3, 4, 1, 0] rfl ?_
        exact ih v8 v9 H5 h
      · have h := it_pos c7 h
        refine V_lconst (v := 0) hC dX7_countFrom_59 (by decide) ?_
        exact V_lret hC hret dX7_countFrom_60 h
def f_X7_countFrom (r : Nat) (a1 : Int32) (H : Hp) : Option (Int64 × Hp) := bnd (f_X3_endsIn r a1 H) (fun w2 H1 => if w2 = 0 then L_X7_countFrom_18 r a1 (fun (z10 : Int64) (H11 : Hp) => some (z10, H11)) FU 0 0 H1 else some (1, H1))
set_option maxRecDepth 100000 in
set_option maxHeartbeats 4000000 in
theorem s_X7_countFrom {p : Program} {l : Launch} {e : Env} {s : State} {m : MethodId} {args : Array Value} {below : List Frame} {meth : Method} {c : Code} {A : Nat → Prop} {D : va_G} {K4 : kQ} {ad : Nat → Nat → Nat} {nr : Nat} {r : Nat} {a1 : Int32} {H : Hp} {res : Int64 × Hp} (hC : Cx p s m args c A s.heap D K4 7 RX7 cX7_countFrom) (hret : meth.sig.returnType = (some .long) ∧ meth.locks = false) (hr_r : r < nr) (h : f_X7_countFrom r a1 H = some res) : V p l e ({ frames := 1, cells := 0, slots := 0, locals := 21 }) s m args below meth c A s.heap (QJ below args s A D K4 ad nr res) D K4 ad nr 7 0 [(0, .ref (ad (r + 2) 2)), (1, .int a1)] [] H := by
  unfold f_X7_countFrom at h
  refine V_aload_n hC 0 dX7_countFrom_0 rfl ?_
  refine V_getR (g := (r + 2)) (k := 2) (g' := (r + 2)) (k' := 1) hC 7 0 fl_X7_37 (okR hr_r rfl) rfl rfl rfl dX7_countFrom_1 ?_
  refine V_iload_n hC 1 dX7_countFrom_4 rfl ?_
  obtain ⟨w2, H1, hc, h⟩ := bnd_some h
  refine V_calli (g := (r + 2)) (k := 1) (As := [.int a1]) (st := []) hC (c_X3_endsIn l (hr_r := hr_r) hc) rfl ml_X7_67 ⟨Nat.le_of_ble_eq_true rfl, Nat.le_of_ble_eq_true rfl⟩ (okR hr_r rfl) rfl rfl (Nat.le_of_ble_eq_true rfl) dX7_countFrom_5 ?_
  refine V_if_eq (tgt := 13) hC dX7_countFrom_8 (by decide) (fun c3 => ?_) (fun c3 => ?_)
  · have h := it_pos c3 h
    refine V_lconst (v := 0) hC dX7_countFrom_13 (by decide) ?_
    refine V_lstore_n (lv' := [(2, .long 0), (0, .ref (ad (r + 2) 2)), (1, .int a1)]) hC dX7_countFrom_14 (Nat.le_of_ble_eq_true rfl) rfl ?_
    refine V_iconst (v := 0) hC dX7_countFrom_15 (by decide) ?_
    refine V_istore (lv' := [(4, .int 0), (2, .long 0), (0, .ref (ad (r + 2) 2)), (1, .int a1)]) hC dX7_countFrom_16 (Nat.le_of_ble_eq_true rfl) rfl ?_
    refine V_lv (lv' := [(0, .ref (ad (r + 2) 2)), (1, .int a1), (2, .long 0), (4, .int 0)]) [2, 3, 1, 0] rfl ?_
    refine sL_X7_countFrom_18 hC hret hr_r (fun z10 H11 h => ?_) _ 0 0 H1 h
    refine V_lload_n hC 0 dX7_countFrom_72 rfl ?_
    exact V_lret hC hret dX7_countFrom_73 h
  · have h := it_neg c3 h
    refine V_lconst (v := 1) hC dX7_countFrom_11 (by decide) ?_
    exact V_lret hC hret dX7_countFrom_12 h
theorem c_X7_countFrom (l : Launch) {nr : Nat} {r : Nat} (hr_r : r < nr) {a1 : Int32} {H : Hp} {x : Int64} {H' : Hp} (h : f_X7_countFrom r a1 H = some (x, H')) : CJ l nr yX7_countFrom cX7_countFrom 7 (some .long) 1 21 (fun ad => [.ref (ad (r + 2) 2), .int a1]) H x H' := by
  intro D K4 ad sz
  refine Met.ofV (by decide) (Nat.le_of_ble_eq_true rfl) ?_
  intro p e s m args below meth c hC hret hsz
  subst hsz
  exact s_X7_countFrom hC hret hr_r h
theorem dX7_countFromBlocks_0 : decode cX7_countFromBlocks 0 = .ok (.iconst 0, 1) := by decide +kernel
theorem dX7_countFromBlocks_1 : decode cX7_countFromBlocks 1 = .ok (.istore_n 1, 1) := by decide +kernel
theorem dX7_countFromBlocks_2 : decode cX7_countFromBlocks 2 = .ok (.iload_n 1, 1) := by decide +kernel
theorem dX7_countFromBlocks_3 : decode cX7_countFromBlocks 3 = .ok (.aload_n 0, 1) := by decide +kernel
theorem dX7_countFromBlocks_4 : decode cX7_countFromBlocks 4 = .ok (.getfield 37, 3) := by decide +kernel
theorem dX7_countFromBlocks_7 : decode cX7_countFromBlocks 7 = .ok (.getfield 57, 3) := by decide +kernel
theorem dX7_countFromBlocks_10 : decode cX7_countFromBlocks 10 = .ok (.if_icmp .ge 16, 3) := by decide +kernel
theorem dX7_countFromBlocks_13 : decode cX7_countFromBlocks 13 = .ok (.aload_n 0, 1) := by decide +kernel
theorem dX7_countFromBlocks_14 : decode cX7_countFromBlocks 14 = .ok (.getfield 9, 3) := by decide +kernel
theorem dX7_countFromBlocks_17 : decode cX7_countFromBlocks 17 = .ok (.iload_n 1, 1) := by decide +kernel
theorem dX7_countFromBlocks_18 : decode cX7_countFromBlocks 18 = .ok (.lconst 0, 1) := by decide +kernel
theorem dX7_countFromBlocks_19 : decode cX7_countFromBlocks 19 = .ok (.lastore, 1) := by decide +kernel
theorem dX7_countFromBlocks_20 : decode cX7_countFromBlocks 20 = .ok (.iinc 1 1, 3) := by decide +kernel
theorem dX7_countFromBlocks_23 : decode cX7_countFromBlocks 23 = .ok (.goto (-21), 3) := by decide +kernel
theorem dX7_countFromBlocks_26 : decode cX7_countFromBlocks 26 = .ok (.iconst 0, 1) := by decide +kernel
theorem dX7_countFromBlocks_27 : decode cX7_countFromBlocks 27 = .ok (.istore_n 1, 1) := by decide +kernel
theorem dX7_countFromBlocks_28 : decode cX7_countFromBlocks 28 = .ok (.iload_n 1, 1) := by decide +kernel
theorem dX7_countFromBlocks_29 : decode cX7_countFromBlocks 29 = .ok (.aload_n 0, 1) := by decide +kernel
theorem dX7_countFromBlocks_30 : decode cX7_countFromBlocks 30 = .ok (.getfield 37, 3) := by decide +kernel
theorem dX7_countFromBlocks_33 : decode cX7_countFromBlocks 33 = .ok (.getfield 57, 3) := by decide +kernel
theorem dX7_countFromBlocks_36 : decode cX7_countFromBlocks 36 = .ok (.if_icmp .ge 39, 3) := by decide +kernel
theorem dX7_countFromBlocks_39 : decode cX7_countFromBlocks 39 = .ok (.iconst 0, 1) := by decide +kernel
theorem dX7_countFromBlocks_40 : decode cX7_countFromBlocks 40 = .ok (.istore_n 2, 1) := by decide +kernel
theorem dX7_countFromBlocks_41 : decode cX7_countFromBlocks 41 = .ok (.iload_n 2, 1) := by decide +kernel
theorem dX7_countFromBlocks_42 : decode cX7_countFromBlocks 42 = .ok (.aload_n 0, 1) := by decide +kernel
theorem dX7_countFromBlocks_43 : decode cX7_countFromBlocks 43 = .ok (.getfield 37, 3) := by decide +kernel
theorem dX7_countFromBlocks_46 : decode cX7_countFromBlocks 46 = .ok (.getfield 57, 3) := by decide +kernel
theorem dX7_countFromBlocks_49 : decode cX7_countFromBlocks 49 = .ok (.if_icmp .ge 20, 3) := by decide +kernel
theorem dX7_countFromBlocks_52 : decode cX7_countFromBlocks 52 = .ok (.aload_n 0, 1) := by decide +kernel
theorem dX7_countFromBlocks_53 : decode cX7_countFromBlocks 53 = .ok (.getfield 9, 3) := by decide +kernel
theorem dX7_countFromBlocks_56 : decode cX7_countFromBlocks 56 = .ok (.iload_n 2, 1) := by decide +kernel
theorem dX7_countFromBlocks_57 : decode cX7_countFromBlocks 57 = .ok (.aload_n 0, 1) := by decide +kernel
theorem dX7_countFromBlocks_58 : decode cX7_countFromBlocks 58 = .ok (.iload_n 2, 1) := by decide +kernel
theorem dX7_countFromBlocks_59 : decode cX7_countFromBlocks 59 = .ok (.invokevirtual 63, 3) := by decide +kernel
theorem dX7_countFromBlocks_62 : decode cX7_countFromBlocks 62 = .ok (.lastore, 1) := by decide +kernel
theorem dX7_countFromBlocks_63 : decode cX7_countFromBlocks 63 = .ok (.iinc 2 1, 3) := by decide +kernel
theorem dX7_countFromBlocks_66 : decode cX7_countFromBlocks 66 = .ok (.goto (-25), 3) := by decide +kernel
theorem dX7_countFromBlocks_69 : decode cX7_countFromBlocks 69 = .ok (.iinc 1 1, 3) := by decide +kernel
theorem dX7_countFromBlocks_72 : decode cX7_countFromBlocks 72 = .ok (.goto (-44), 3) := by decide +kernel
theorem dX7_countFromBlocks_75 : decode cX7_countFromBlocks 75 = .ok (.iconst 0, 1) := by decide +kernel
theorem dX7_countFromBlocks_76 : decode cX7_countFromBlocks 76 = .ok (.istore_n 1, 1) := by decide +kernel
theorem dX7_countFromBlocks_77 : decode cX7_countFromBlocks 77 = .ok (.iload_n 1, 1) := by decide +kernel
theorem dX7_countFromBlocks_78 : decode cX7_countFromBlocks 78 = .ok (.aload_n 0, 1) := by decide +kernel
theorem dX7_countFromBlocks_79 : decode cX7_countFromBlocks 79 = .ok (.getfield 37, 3) := by decide +kernel
theorem dX7_countFromBlocks_82 : decode cX7_countFromBlocks 82 = .ok (.getfield 57, 3) := by decide +kernel
theorem dX7_countFromBlocks_85 : decode cX7_countFromBlocks 85 = .ok (.if_icmp .ge 22, 3) := by decide +kernel
theorem dX7_countFromBlocks_88 : decode cX7_countFromBlocks 88 = .ok (.aload_n 0, 1) := by decide +kernel
theorem dX7_countFromBlocks_89 : decode cX7_countFromBlocks 89 = .ok (.getfield 9, 3) := by decide +kernel
theorem dX7_countFromBlocks_92 : decode cX7_countFromBlocks 92 = .ok (.iload_n 1, 1) := by decide +kernel
theorem dX7_countFromBlocks_93 : decode cX7_countFromBlocks 93 = .ok (.laload, 1) := by decide +kernel
theorem dX7_countFromBlocks_94 : decode cX7_countFromBlocks 94 = .ok (.lconst 0, 1) := by decide +kernel
theorem dX7_countFromBlocks_95 : decode cX7_countFromBlocks 95 = .ok (.lcmp, 1) := by decide +kernel
theorem dX7_countFromBlocks_96 : decode cX7_countFromBlocks 96 = .ok (.ifCond .ne 5, 3) := by decide +kernel
theorem dX7_countFromBlocks_99 : decode cX7_countFromBlocks 99 = .ok (.iconst 0, 1) := by decide +kernel
theorem dX7_countFromBlocks_100 : decode cX7_countFromBlocks 100 = .ok (.ireturn, 1) := by decide +kernel
theorem dX7_countFromBlocks_101 : decode cX7_countFromBlocks 101 = .ok (.iinc 1 1, 3) := by decide +kernel
theorem dX7_countFromBlocks_104 : decode cX7_countFromBlocks 104 = .ok (.goto (-27), 3) := by decide +kernel
theorem dX7_countFromBlocks_107 : decode cX7_countFromBlocks 107 = .ok (.iconst 1, 1) := by decide +kernel
theorem dX7_countFromBlocks_108 : decode cX7_countFromBlocks 108 = .ok (.ireturn, 1) := by decide +kernel
def L_X7_countFromBlocks_2 (r : Nat) (k : Hp → Option (Int32 × Hp)) : Nat → Int32 → Hp → Option (Int32 × Hp)
  | 0, _, _ => none
  | n + 1, x1, H => if (gI H (r + 2) 1 10) ≤ x1 then k H else gd x1 20 (hl (sJ H (r + 2) 18 (Int32.toNatClampNeg x1) 0) (fun (H2 : Hp) => vl (x1 + (1 : Int32)) (fun (v3 : Int32) => L_X7_countFromBlocks_2 r k n v3 H2)))
set_option maxRecDepth 100000 in
set_option maxHeartbeats 4000000 in
theorem sL_X7_countFromBlocks_2 {p : Program} {l : Launch} {e : Env} {s : State} {m : MethodId} {args : Array Value} {below : List Frame} {meth : Method} {c : Code} {A : Nat → Prop} {D : va_G} {K4 : kQ} {ad : Nat → Nat → Nat} {nr : Nat} {r : Nat} {k : Hp → Option (Int32 × Hp)} {res : Int32 × Hp} (hC : Cx p s m args c A s.heap D K4 3 RX7 cX7_countFromBlocks) (hret : meth.sig.returnType = (some .boolean) ∧ meth.locks = false) (hr_r : r < nr) (hk : ∀ (H : Hp), k H = some res → V p l e ({ frames := 2, cells := 0, slots := 0, locals := 47 }) s m args below meth c A s.heap (QI below args s A D K4 ad nr res) D K4 ad nr 3 26 [(0, .ref (ad (r + 2) 2))] [] H) : ∀ (n : Nat) (x1 : Int32) (H : Hp), L_X7_countFromBlocks_2 r k n x1 H = some res → V p l e ({ frames := 2, cells := 0, slots := 0, locals := 47 }) s m args below meth c A s.heap (QI below args s A D K4 ad nr res) D K4 ad nr 3 2 [(0, .ref (ad (r + 2) 2)), (1, .int x1)] [] H := by
  intro n
  induction n with
  | zero => intro x1 H h; exact nomatch (show (none : Option (Int32 × Hp)) = some res from h)
  | succ n ih =>
    intro x1 H h
    rw [L_X7_countFromBlocks_2] at h
    refine V_iload_n hC 1 dX7_countFromBlocks_2 rfl ?_
    refine V_aload_n hC 0 dX7_countFromBlocks_3 rfl ?_
    refine V_getR (g := (r + 2)) (k := 2) (g' := (r + 2)) (k' := 1) hC 7 0 fl_X7_37 (okR hr_r rfl) rfl rfl rfl dX7_countFromBlocks_4 ?_
    refine V_getI (g := (r + 2)) (k := 1) hC 3 10 fl_X7_57 (okR hr_r rfl) rfl rfl dX7_countFromBlocks_7 ?_
    refine V_icmp_ge (tgt := 26) hC dX7_countFromBlocks_10 (by decide) (fun c1 => ?_) (fun c1 => ?_)
    · have h := it_pos c1 h
      refine V_lv (lv' := [(0, .ref (ad (r + 2) 2))]) [0] rfl ?_
      exact hk H h
    · have h := it_neg c1 h
      refine V_aload_n hC 0 dX7_countFromBlocks_13 rfl ?_
      refine V_getR (g := (r + 2)) (k := 2) (g' := (r + 2)) (k' := 18) hC 7 1 fl_X7_9 (okR hr_r rfl) rfl rfl rfl dX7_countFromBlocks_14 ?_
      refine V_iload_n hC 1 dX7_countFromBlocks_17 rfl ?_
      refine V_lconst (v := 0) hC dX7_countFromBlocks_18 (by decide) ?_
      obtain ⟨hi, h⟩ := gd_some h
      refine V_last (g := (r + 2)) (k := 18) hC (okR hr_r rfl) rfl hi dX7_countFromBlocks_19 ?_
      refine V_hl h (fun H2 h => ?_)
      refine V_vi h (fun v3 hvv3 h => ?_)
      refine V_iinc (v := v3) (lv' := [(1, .int v3), (0, .ref (ad (r + 2) 2))]) hC 1 dX7_countFromBlocks_20 rfl hvv3.symm (Nat.le_of_ble_eq_true rfl) rfl ?_
      refine V_goto (tgt := 2) hC dX7_countFromBlocks_23 (by decide) ?_
      refine V_lv (lv' := [(0, .ref (ad (r + 2) 2)), (1, .int v3)]) [1, 0] rfl ?_
      exact ih v3 H2 h
def L_X7_countFromBlocks_41 (r : Nat) (b1 : Int32) (k : Hp → Option (Int32 × Hp)) : Nat → Int32 → Hp → Option (Int32 × Hp)
  | 0, _, _ => none
  | n + 1, x2, H => if (gI H (r + 2) 1 10) ≤ x2 then k H else bnd (f_X7_countFrom r x2 H) (fun w8 H7 => gd x2 20 (hl (sJ H7 (r + 2) 18 (Int32.toNatClampNeg x2) w8) (fun (H9 : Hp) => vl (x2 + (1 : Int32)) (fun (v10 : Int32) => L_X7_countFromBlocks_41 r b1 k n v10 H9))))
set_option maxRecDepth 100000 in
set_option maxHeartbeats 4000000 in
theorem sL_X7_countFromBlocks_41 {p : Program} {l : Launch} {e : Env} {s : State} {m : MethodId} {args : Array Value} {below : List Frame} {meth : Method} {c : Code} {A : Nat → Prop} {D : va_G} {K4 : kQ} {ad : Nat → Nat → Nat} {nr : Nat} {r : Nat} {b1 : Int32} {k : Hp → Option (Int32 × Hp)} {res : Int32 × Hp} (hC : Cx p s m args c A s.heap D K4 3 RX7 cX7_countFromBlocks) (hret : meth.sig.returnType = (some .boolean) ∧ meth.locks = false) (hr_r : r < nr) (hk : ∀ (H : Hp), k H = some res → V p l e ({ frames := 2, cells := 0, slots := 0, locals := 47 }) s m args below meth c A s.heap (QI below args s A D K4 ad nr res) D K4 ad nr 3 69 [(0, .ref (ad (r + 2) 2)), (1, .int b1)] [] H) : ∀ (n : Nat) (x2 : Int32) (H : Hp), L_X7_countFromBlocks_41 r b1 k n x2 H = some res → V p l e ({ frames := 2, cells := 0, slots := 0, locals := 47 }) s m args below meth c A s.heap (QI below args s A D K4 ad nr res) D K4 ad nr 3 41 [(0, .ref (ad (r + 2) 2)), (1, .int b1), (2, .int x2)] [] H := by
  intro n
  induction n with
  | zero => intro x2 H h; exact nomatch (show (none : Option (Int32 × Hp)) = some res from h)
  | succ n ih =>
    intro x2 H h
    rw [L_X7_countFromBlocks_41] at h
    refine V_iload_n hC 2 dX7_countFromBlocks_41 rfl ?_
    refine V_aload_n hC 0 dX7_countFromBlocks_42 rfl ?_
    refine V_getR (g := (r + 2)) (k := 2) (g' := (r + 2)) (k' := 1) hC 7 0 fl_X7_37 (okR hr_r rfl) rfl rfl rfl dX7_countFromBlocks_43 ?_
    refine V_getI (g := (r + 2)) (k := 1) hC 3 10 fl_X7_57 (okR hr_r rfl) rfl rfl dX7_countFromBlocks_46 ?_
    refine V_icmp_ge (tgt := 69) hC dX7_countFromBlocks_49 (by decide) (fun c6 => ?_) (fun c6 => ?_)
    · have h := it_pos c6 h
      refine V_lv (lv' := [(0, .ref (ad (r + 2) 2)), (1, .int b1)]) [0, 1] rfl ?_
      exact hk H h
    · have h := it_neg c6 h
      refine V_aload_n hC 0 dX7_countFromBlocks_52 rfl ?_
      refine V_getR (g := (r + 2)) (k := 2) (g' := (r + 2)) (k' := 18) hC 7 1 fl_X7_9 (okR hr_r rfl) rfl rfl rfl dX7_countFromBlocks_53 ?_
      refine V_iload_n hC 2 dX7_countFromBlocks_56 rfl ?_
      refine V_aload_n hC 0 dX7_countFromBlocks_57 rfl ?_
      refine V_iload_n hC 2 dX7_countFromBlocks_58 rfl ?_
      obtain ⟨w8, H7, hc, h⟩ := bnd_some h
      refine V_calll (g := (r + 2)) (k := 2) (As := [.int x2]) (st := [.int x2, .ref (ad (r + 2) 18)]) hC (c_X7_countFrom l (hr_r := hr_r) hc) rfl ml_X7_63 ⟨Nat.le_of_ble_eq_true rfl, Nat.le_of_ble_eq_true rfl⟩ (okR hr_r rfl) rfl rfl (Nat.le_of_ble_eq_true rfl) dX7_countFromBlocks_59 ?_
      obtain ⟨hi, h⟩ := gd_some h
      refine V_last (g := (r + 2)) (k := 18) hC (okR hr_r rfl) rfl hi dX7_countFromBlocks_62 ?_
      refine V_hl h (fun H9 h => ?_)
      refine V_vi h (fun v10 hvv10 h => ?_)
      refine V_iinc (v := v10) (lv' := [(2, .int v10), (0, .ref (ad (r + 2) 2)), (1, .int b1)]) hC 2 dX7_countFromBlocks_63 rfl hvv10.symm (Nat.le_of_ble_eq_true rfl) rfl ?_
      refine V_goto (tgt := 41) hC dX7_countFromBlocks_66 (by decide) ?_
      refine V_lv (lv' := [(0, .ref (ad (r + 2) 2)), (1, .int b1), (2, .int v10)]) [1, 2, 0] rfl ?_
      exact ih v10 H9 h
def L_X7_countFromBlocks_28 (r : Nat) (k : Hp → Option (Int32 × Hp)) : Nat → Int32 → Hp → Option (Int32 × Hp)
  | 0, _, _ => none
  | n + 1, x1, H => if (gI H (r + 2) 1 10) ≤ x1 then k H else L_X7_countFromBlocks_41 r x1 (fun (H11 : Hp) => vl (x1 + (1 : Int32)) (fun (v12 : Int32) => L_X7_countFromBlocks_28 r k n v12 H11)) FU 0 H
set_option maxRecDepth 100000 in
set_option maxHeartbeats 4000000 in
theorem sL_X7_countFromBlocks_28 {p : Program} {l : Launch} {e : Env} {s : State} {m : MethodId} {args : Array Value} {below : List Frame} {meth : Method} {c : Code} {A : Nat → Prop} {D : va_G} {K4 : kQ} {ad : Nat → Nat → Nat} {nr : Nat} {r : Nat} {k : Hp → Option (Int32 × Hp)} {res : Int32 × Hp} (hC : Cx p s m args c A s.heap D K4 3 RX7 cX7_countFromBlocks) (hret : meth.sig.returnType = (some .boolean) ∧ meth.locks = false) (hr_r : r < nr) (hk : ∀ (H : Hp), k H = some res → V p l e ({ frames := 2, cells := 0, slots := 0, locals := 47 }) s m args below meth c A s.heap (QI below args s A D K4 ad nr res) D K4 ad nr 3 75 [(0, .ref (ad (r + 2) 2))] [] H) : ∀ (n : Nat) (x1 : Int32) (H : Hp), L_X7_countFromBlocks_28 r k n x1 H = some res → V p l e ({ frames := 2, cells := 0, slots := 0, locals := 47 }) s m args below meth c A s.heap (QI below args s A D K4 ad nr res) D K4 ad nr 3 28 [(0, .ref (ad (r + 2) 2)), (1, .int x1)] [] H := by
  intro n
  induction n with
  | zero => intro x1 H h; exact nomatch (show (none : Option (Int32 × Hp)) = some res from h)
  | succ n ih =>
    intro x1 H h
    rw [L_X7_countFromBlocks_28] at h
    refine V_iload_n hC 1 dX7_countFromBlocks_28 rfl ?_
    refine V_aload_n hC 0 dX7_countFromBlocks_29 rfl ?_
    refine V_getR (g := (r + 2)) (k := 2) (g' := (r + 2)) (k' := 1) hC 7 0 fl_X7_37 (okR hr_r rfl) rfl rfl rfl dX7_countFromBlocks_30 ?_
    refine V_getI (g := (r + 2)) (k := 1) hC 3 10 fl_X7_57 (okR hr_r rfl) rfl rfl dX7_countFromBlocks_33 ?_
    refine V_icmp_ge (tgt := 75) hC dX7_countFromBlocks_36 (by decide) (fun c5 => ?_) (fun c5 => ?_)
    · have h := it_pos c5 h
      refine V_lv (lv' := [(0, .ref (ad (r + 2) 2))]) [0] rfl ?_
      exact hk H h
    · have h := it_neg c5 h
      refine V_iconst (v := 0) hC dX7_countFromBlocks_39 (by decide) ?_
      refine V_istore_n (lv' := [(2, .int 0), (0, .ref (ad (r + 2) 2)), (1, .int x1)]) hC dX7_countFromBlocks_40 (Nat.le_of_ble_eq_true rfl) rfl ?_
      refine V_lv (lv' := [(0, .ref (ad (r + 2) 2)), (1, .int x1), (2, .int 0)]) [1, 2, 0] rfl ?_
      refine sL_X7_countFromBlocks_41 hC hret hr_r (fun H11 h => ?_) _ 0 H h
      refine V_vi h (fun v12 hvv12 h => ?_)
      refine V_iinc (v := v12) (lv' := [(1, .int v12), (0, .ref (ad (r + 2) 2))]) hC 1 dX7_countFromBlocks_69 rfl hvv12.symm (Nat.le_of_ble_eq_true rfl) rfl ?_
      refine V_goto (tgt := 28) hC dX7_countFromBlocks_72 (by decide) ?_
      refine V_lv (lv' := [(0, .ref (ad (r + 2) 2)), (1, .int v12)]) [1, 0] rfl ?_
      exact ih v12 H11 h
def L_X7_countFromBlocks_77 (r : Nat) (k : Hp → Option (Int32 × Hp)) : Nat → Int32 → Hp → Option (Int32 × Hp)
  | 0, _, _ => none
  | n + 1, x1, H => if (gI H (r + 2) 1 10) ≤ x1 then k H else gd x1 20 (if (lg_cmp (gJ H (r + 2) 18 (Int32.toNatClampNeg x1)) 0) = 0 then some (0, H) else vl (x1 + (1 : Int32)) (fun (v16 : Int32) => L_X7_countFromBlocks_77 r k n v16 H))
set_option maxRecDepth 100000 in
set_option maxHeartbeats 4000000 in
theorem sL_X7_countFromBlocks_77 {p : Program} {l : Launch} {e : Env} {s : State} {m : MethodId} {args : Array Value} {below : List Frame} {meth : Method} {c : Code} {A : Nat → Prop} {D : va_G} {K4 : kQ} {ad : Nat → Nat → Nat} {nr : Nat} {r : Nat} {k : Hp → Option (Int32 × Hp)} {res : Int32 × Hp} (hC : Cx p s m args c A s.heap D K4 3 RX7 cX7_countFromBlocks) (hret : meth.sig.returnType = (some .boolean) ∧ meth.locks = false) (hr_r : r < nr) (hk : ∀ (H : Hp), k H = some res → V p l e ({ frames := 2, cells := 0, slots := 0, locals := 47 }) s m args below meth c A s.heap (QI below args s A D K4 ad nr res) D K4 ad nr 3 107 [] [] H) : ∀ (n : Nat) (x1 : Int32) (H : Hp), L_X7_countFromBlocks_77 r k n x1 H = some res → V p l e ({ frames := 2, cells := 0, slots := 0, locals := 47 }) s m args below meth c A s.heap (QI below args s A D K4 ad nr res) D K4 ad nr 3 77 [(0, .ref (ad (r + 2) 2)), (1, .int x1)] [] H := by
  intro n
  induction n with
  | zero => intro x1 H h; exact nomatch (show (none : Option (Int32 × Hp)) = some res from h)
  | succ n ih =>
    intro x1 H h
    rw [L_X7_countFromBlocks_77] at h
    refine V_iload_n hC 1 dX7_countFromBlocks_77 rfl ?_
    refine V_aload_n hC 0 dX7_countFromBlocks_78 rfl ?_
    refine V_getR (g := (r + 2)) (k := 2) (g' := (r + 2)) (k' := 1) hC 7 0 fl_X7_37 (okR hr_r rfl) rfl rfl rfl dX7_countFromBlocks_79 ?_
    refine V_getI (g := (r + 2)) (k := 1) hC 3 10 fl_X7_57 (okR hr_r rfl) rfl rfl dX7_countFromBlocks_82 ?_
    refine V_icmp_ge (tgt := 107) hC dX7_countFromBlocks_85 (by decide) (fun c14 => ?_) (fun c14 => ?_)
    · have h := it_pos c14 h
      refine V_lv (lv' := []) [] rfl ?_
      exact hk H h
    · have h := it_neg c14 h
      refine V_aload_n hC 0 dX7_countFromBlocks_88 rfl ?_
      refine V_getR (g := (r + 2)) (k := 2) (g' := (r + 2)) (k' := 18) hC 7 1 fl_X7_9 (okR hr_r rfl) rfl rfl rfl dX7_countFromBlocks_89 ?_
      refine V_iload_n hC 1 dX7_countFromBlocks_92 rfl ?_
      obtain ⟨hi, h⟩ := gd_some h
      refine V_lald (g := (r + 2)) (k := 18) hC (okR hr_r rfl) rfl hi dX7_countFromBlocks_93 ?_
      refine V_lconst (v := 0) hC dX7_countFromBlocks_94 (by decide) ?_
      refine V_lcmp hC dX7_countFromBlocks_95 ?_
      refine V_if_ne (tgt := 101) hC dX7_countFromBlocks_96 (by decide) (fun c15 => ?_) (fun c15 => ?_)
      · have h := it_neg c15 h
        refine V_vi h (fun v16 hvv16 h => ?_)
        refine V_iinc (v := v16) (lv' := [(1, .int v16), (0, .ref (ad (r + 2) 2))]) hC 1 dX7_countFromBlocks_101 rfl hvv16.symm (Nat.le_of_ble_eq_true rfl) rfl ?_
        refine V_goto (tgt := 77) hC dX7_countFromBlocks_104 (by decide) ?_
        refine V_lv (lv' := [(0, .ref (ad (r + 2) 2)), (1, .int v16)]) [1, 0] rfl ?_
        exact ih v16 H h
      · have h := it_pos c15 h
        refine V_iconst (v := 0) hC dX7_countFromBlocks_99 (by decide) ?_
        exact V_zret hC hret (by decide) dX7_countFromBlocks_100 h
def f_X7_countFromBlocks (r : Nat) (H : Hp) : Option (Int32 × Hp) := L_X7_countFromBlocks_2 r (fun (H4 : Hp) => L_X7_countFromBlocks_28 r (fun (H13 : Hp) => L_X7_countFromBlocks_77 r (fun (H17 : Hp) => some (1, H17)) FU 0 H13) FU 0 H4) FU 0 H
set_option maxRecDepth 100000 in
set_option maxHeartbeats 4000000 in
theorem s_X7_countFromBlocks {p : Program} {l : Launch} {e : Env} {s : State} {m : MethodId} {args : Array Value} {below : List Frame} {meth : Method} {c : Code} {A : Nat → Prop} {D : va_G} {K4 : kQ} {ad : Nat → Nat → Nat} {nr : Nat} {r : Nat} {H : Hp} {res : Int32 × Hp} (hC : Cx p s m args c A s.heap D K4 3 RX7 cX7_countFromBlocks) (hret : meth.sig.returnType = (some .boolean) ∧ meth.locks = false) (hr_r : r < nr) (h : f_X7_countFromBlocks r H = some res) : V p l e ({ frames := 2, cells := 0, slots := 0, locals := 47 }) s m args below meth c A s.heap (QI below args s A D K4 ad nr res) D K4 ad nr 3 0 [(0, .ref (ad (r + 2) 2))] [] H := by
  unfold f_X7_countFromBlocks at h
  refine V_iconst (v := 0) hC dX7_countFromBlocks_0 (by decide) ?_
  refine V_istore_n (lv' := [(1, .int 0), (0, .ref (ad (r + 2) 2))]) hC dX7_countFromBlocks_1 (Nat.le_of_ble_eq_true rfl) rfl ?_
  refine V_lv (lv' := [(0, .ref (ad (r + 2) 2)), (1, .int 0)]) [1, 0] rfl ?_
  refine sL_X7_countFromBlocks_2 hC hret hr_r (fun H4 h => ?_) _ 0 H h
  refine V_iconst (v := 0) hC dX7_countFromBlocks_26 (by decide) ?_
  refine V_istore_n (lv' := [(1, .int 0), (0, .ref (ad (r + 2) 2))]) hC dX7_countFromBlocks_27 (Nat.le_of_ble_eq_true rfl) rfl ?_
  refine V_lv (lv' := [(0, .ref (ad (r + 2) 2)), (1, .int 0)]) [1, 0] rfl ?_
  refine sL_X7_countFromBlocks_28 hC hret hr_r (fun H13 h => ?_) _ 0 H4 h
  refine V_iconst (v := 0) hC dX7_countFromBlocks_75 (by decide) ?_
  refine V_istore_n (lv' := [(1, .int 0), (0, .ref (ad (r + 2) 2))]) hC dX7_countFromBlocks_76 (Nat.le_of_ble_eq_true rfl) rfl ?_
  refine V_lv (lv' := [(0, .ref (ad (r + 2) 2)), (1, .int 0)]) [1, 0] rfl ?_
  refine sL_X7_countFromBlocks_77 hC hret hr_r (fun H17 h => ?_) _ 0 H13 h
  refine V_iconst (v := 1) hC dX7_countFromBlocks_107 (by decide) ?_
  exact V_zret hC hret (by decide) dX7_countFromBlocks_108 h
theorem c_X7_countFromBlocks (l : Launch) {nr : Nat} {r : Nat} (hr_r : r < nr) {H : Hp} {x : Int32} {H' : Hp} (h : f_X7_countFromBlocks r H = some (x, H')) : CI l nr yX7_countFromBlocks cX7_countFromBlocks 3 (some .boolean) 2 47 (fun ad => [.ref (ad (r + 2) 2)]) H x H' := by
  intro D K4 ad sz
  refine Met.ofV (by decide) (Nat.le_of_ble_eq_true rfl) ?_
  intro p e s m args below meth c hC hret hsz
  subst hsz
  exact s_X7_countFromBlocks hC hret hr_r h
theorem dX7_sumAdds_0 : decode cX7_sumAdds 0 = .ok (.iconst 0, 1) := by decide +kernel
theorem dX7_sumAdds_1 : decode cX7_sumAdds 1 = .ok (.istore_n 1, 1) := by decide +kernel
theorem dX7_sumAdds_2 : decode cX7_sumAdds 2 = .ok (.iload_n 1, 1) := by decide +kernel
theorem dX7_sumAdds_3 : decode cX7_sumAdds 3 = .ok (.aload_n 0, 1) := by decide +kernel
theorem dX7_sumAdds_4 : decode cX7_sumAdds 4 = .ok (.getfield 37, 3) := by decide +kernel
theorem dX7_sumAdds_7 : decode cX7_sumAdds 7 = .ok (.getfield 57, 3) := by decide +kernel
theorem dX7_sumAdds_10 : decode cX7_sumAdds 10 = .ok (.if_icmp .ge 67, 3) := by decide +kernel
theorem dX7_sumAdds_13 : decode cX7_sumAdds 13 = .ok (.lconst 0, 1) := by decide +kernel
theorem dX7_sumAdds_14 : decode cX7_sumAdds 14 = .ok (.lstore_n 2, 1) := by decide +kernel
theorem dX7_sumAdds_15 : decode cX7_sumAdds 15 = .ok (.iconst 0, 1) := by decide +kernel
theorem dX7_sumAdds_16 : decode cX7_sumAdds 16 = .ok (.istore 4, 2) := by decide +kernel
theorem dX7_sumAdds_18 : decode cX7_sumAdds 18 = .ok (.iload 4, 2) := by decide +kernel
theorem dX7_sumAdds_20 : decode cX7_sumAdds 20 = .ok (.aload_n 0, 1) := by decide +kernel
theorem dX7_sumAdds_21 : decode cX7_sumAdds 21 = .ok (.getfield 37, 3) := by decide +kernel
theorem dX7_sumAdds_24 : decode cX7_sumAdds 24 = .ok (.getfield 71, 3) := by decide +kernel
theorem dX7_sumAdds_27 : decode cX7_sumAdds 27 = .ok (.iload_n 1, 1) := by decide +kernel
theorem dX7_sumAdds_28 : decode cX7_sumAdds 28 = .ok (.iaload, 1) := by decide +kernel
theorem dX7_sumAdds_29 : decode cX7_sumAdds 29 = .ok (.if_icmp .ge 42, 3) := by decide +kernel
theorem dX7_sumAdds_32 : decode cX7_sumAdds 32 = .ok (.aload_n 0, 1) := by decide +kernel
theorem dX7_sumAdds_33 : decode cX7_sumAdds 33 = .ok (.getfield 37, 3) := by decide +kernel
theorem dX7_sumAdds_36 : decode cX7_sumAdds 36 = .ok (.getfield 74, 3) := by decide +kernel
theorem dX7_sumAdds_39 : decode cX7_sumAdds 39 = .ok (.iload_n 1, 1) := by decide +kernel
theorem dX7_sumAdds_40 : decode cX7_sumAdds 40 = .ok (.iconst 4, 1) := by decide +kernel
theorem dX7_sumAdds_41 : decode cX7_sumAdds 41 = .ok (.imul, 1) := by decide +kernel
theorem dX7_sumAdds_42 : decode cX7_sumAdds 42 = .ok (.iload 4, 2) := by decide +kernel
theorem dX7_sumAdds_44 : decode cX7_sumAdds 44 = .ok (.iadd, 1) := by decide +kernel
theorem dX7_sumAdds_45 : decode cX7_sumAdds 45 = .ok (.iaload, 1) := by decide +kernel
theorem dX7_sumAdds_46 : decode cX7_sumAdds 46 = .ok (.istore 5, 2) := by decide +kernel
theorem dX7_sumAdds_48 : decode cX7_sumAdds 48 = .ok (.aload_n 0, 1) := by decide +kernel
theorem dX7_sumAdds_49 : decode cX7_sumAdds 49 = .ok (.getfield 21, 3) := by decide +kernel
theorem dX7_sumAdds_52 : decode cX7_sumAdds 52 = .ok (.iload 5, 2) := by decide +kernel
theorem dX7_sumAdds_54 : decode cX7_sumAdds 54 = .ok (.lload_n 2, 1) := by decide +kernel
theorem dX7_sumAdds_55 : decode cX7_sumAdds 55 = .ok (.lastore, 1) := by decide +kernel
theorem dX7_sumAdds_56 : decode cX7_sumAdds 56 = .ok (.lload_n 2, 1) := by decide +kernel
theorem dX7_sumAdds_57 : decode cX7_sumAdds 57 = .ok (.aload_n 0, 1) := by decide +kernel
theorem dX7_sumAdds_58 : decode cX7_sumAdds 58 = .ok (.iload 5, 2) := by decide +kernel
theorem dX7_sumAdds_60 : decode cX7_sumAdds 60 = .ok (.invokevirtual 77, 3) := by decide +kernel
theorem dX7_sumAdds_63 : decode cX7_sumAdds 63 = .ok (.ladd, 1) := by decide +kernel
theorem dX7_sumAdds_64 : decode cX7_sumAdds 64 = .ok (.lstore_n 2, 1) := by decide +kernel
theorem dX7_sumAdds_65 : decode cX7_sumAdds 65 = .ok (.iinc 4 1, 3) := by decide +kernel
theorem dX7_sumAdds_68 : decode cX7_sumAdds 68 = .ok (.goto (-50), 3) := by decide +kernel
theorem dX7_sumAdds_71 : decode cX7_sumAdds 71 = .ok (.iinc 1 1, 3) := by decide +kernel
theorem dX7_sumAdds_74 : decode cX7_sumAdds 74 = .ok (.goto (-72), 3) := by decide +kernel
theorem dX7_sumAdds_77 : decode cX7_sumAdds 77 = .ok (.return_, 1) := by decide +kernel
def L_X7_sumAdds_18 (r : Nat) (b1 : Int32) (k : Hp → Option (Unit × Hp)) : Nat → Int64 → Int32 → Hp → Option (Unit × Hp)
  | 0, _, _, _ => none
  | n + 1, x2, x4, H => gd b1 20 (if (gI H (r + 2) 10 (Int32.toNatClampNeg b1)) ≤ x4 then k H else gd ((b1 * 4) + x4) 80 (vl ((gI H (r + 2) 12 (Int32.toNatClampNeg ((b1 * 4) + x4)))) (fun (v3 : Int32) => gd v3 40 (hl (sJ H (r + 2) 21 (Int32.toNatClampNeg v3) x2) (fun (H4 : Hp) => bnd (f_X7_countBeyond r v3 H4) (fun w6 H5 => vl ((x2 + w6)) (fun (v7 : Int64) => vl (x4 + (1 : Int32)) (fun (v8 : Int32) => L_X7_sumAdds_18 r b1 k n v7 v8 H5))))))))
set_option maxRecDepth 100000 in
set_option maxHeartbeats 4000000 in
theorem sL_X7_sumAdds_18 {p : Program} {l : Launch} {e : Env} {s : State} {m : MethodId} {args : Array Value} {below : List Frame} {meth : Method} {c : Code} {A : Nat → Prop} {D : va_G} {K4 : kQ} {ad : Nat → Nat → Nat} {nr : Nat} {r : Nat} {b1 : Int32} {k : Hp → Option (Unit × Hp)} {res : Unit × Hp} (hC : Cx p s m args c A s.heap D K4 6 RX7 cX7_sumAdds) (hret : meth.sig.returnType = none ∧ meth.locks = false) (hr_r : r < nr) (hk : ∀ (H : Hp), k H = some res → V p l e ({ frames := 1, cells := 0, slots := 0, locals := 21 }) s m args below meth c A s.heap (QU below args s A D K4 ad nr res) D K4 ad nr 6 71 [(0, .ref (ad (r + 2) 2)), (1, .int b1)] [] H) : ∀ (n : Nat) (x2 : Int64) (x4 : Int32) (H : Hp), L_X7_sumAdds_18 r b1 k n x2 x4 H = some res → V p l e ({ frames := 1, cells := 0, slots := 0, locals := 21 }) s m args below meth c A s.heap (QU below args s A D K4 ad nr res) D K4 ad nr 6 18 [(0, .ref (ad (r + 2) 2)), (1, .int b1), (2, .long x2), (4, .int x4)] [] H := by
  intro n
  induction n with
  | zero => intro x2 x4 H h; exact nomatch (show (none : Option (Unit × Hp)) = some res from h)
  | succ n ih =>
    intro x2 x4 H h
    rw [L_X7_sumAdds_18] at h
    refine V_iload hC 3 dX7_sumAdds_18 rfl ?_
    refine V_aload_n hC 0 dX7_sumAdds_20 rfl ?_
    refine V_getR (g := (r + 2)) (k := 2) (g' := (r + 2)) (k' := 1) hC 7 0 fl_X7_37 (okR hr_r rfl) rfl rfl rfl dX7_sumAdds_21 ?_
    refine V_getR (g := (r + 2)) (k := 1) (g' := (r + 2)) (k' := 10) hC 3 2 fl_X7_71 (okR hr_r rfl) rfl rfl rfl dX7_sumAdds_24 ?_
    refine V_iload_n hC 1 dX7_sumAdds_27 rfl ?_
    obtain ⟨hi, h⟩ := gd_some h
    refine V_iald (g := (r + 2)) (k := 10) hC (okR hr_r rfl) rfl hi dX7_sumAdds_28 ?_
    refine V_icmp_ge (tgt := 71) hC dX7_sumAdds_29 (by decide) (fun c2 => ?_) (fun c2 => ?_)
    · have h := it_pos c2 h
      refine V_lv (lv' := [(0, .ref (ad (r + 2) 2)), (1, .int b1)]) [0, 1] rfl ?_
      exact hk H h
    · have h := it_neg c2 h
      refine V_aload_n hC 0 dX7_sumAdds_32 rfl ?_
      refine V_getR (g := (r + 2)) (k := 2) (g' := (r + 2)) (k' := 1) hC 7 0 fl_X7_37 (okR hr_r rfl) rfl rfl rfl dX7_sumAdds_33 ?_
      refine V_getR (g := (r + 2)) (k := 1) (g' := (r + 2)) (k' := 12) hC 3 4 fl_X7_74 (okR hr_r rfl) rfl rfl rfl dX7_sumAdds_36 ?_
      refine V_iload_n hC 1 dX7_sumAdds_39 rfl ?_
      refine V_iconst (v := 4) hC dX7_sumAdds_40 (by decide) ?_
      refine V_imul hC dX7_sumAdds_41 ?_
      refine V_iload hC 3 dX7_sumAdds_42 rfl ?_
      refine V_iadd hC dX7_sumAdds_44 ?_
      obtain ⟨hi, h⟩ := gd_some h
      refine V_iald (g := (r + 2)) (k := 12) hC (okR hr_r rfl) rfl hi dX7_sumAdds_45 ?_
      refine V_vlI h (fun v3 h => ?_)
      refine V_istore (lv' := [(5, .int v3), (0, .ref (ad (r + 2) 2)), (1, .int b1), (2, .long x2), (4, .int x4)]) hC dX7_sumAdds_46 (Nat.le_of_ble_eq_true rfl) rfl ?_
      refine V_aload_n hC 1 dX7_sumAdds_48 rfl ?_
      refine V_getR (g := (r + 2)) (k := 2) (g' := (r + 2)) (k' := 21) hC 7 4 fl_X7_21 (okR hr_r rfl) rfl rfl rfl dX7_sumAdds_49 ?_
      refine V_iload hC 0 dX7_sumAdds_52 rfl ?_
      refine V_lload_n hC 3 dX7_sumAdds_54 rfl ?_
      obtain ⟨hi, h⟩ := gd_some h
      refine V_last (g := (r + 2)) (k := 21) hC (okR hr_r rfl) rfl hi dX7_sumAdds_55 ?_
      refine V_hl h (fun H4 h => ?_)
      refine V_lload_n hC 3 dX7_sumAdds_56 rfl ?_
      refine V_aload_n hC 1 dX7_sumAdds_57 rfl ?_
      refine V_iload hC 0 dX7_sumAdds_58 rfl ?_
      obtain ⟨w6, H5, hc, h⟩ := bnd_some h
      refine V_calll (g := (r + 2)) (k := 2) (As := [.int v3]) (st := [.long x2]) hC (c_X7_countBeyond l (hr_r := hr_r) hc) rfl ml_X7_77 ⟨Nat.le_of_ble_eq_true rfl, Nat.le_of_ble_eq_true rfl⟩ (okR hr_r rfl) rfl rfl (Nat.le_of_ble_eq_true rfl) dX7_sumAdds_60 ?_
      refine V_ladd hC dX7_sumAdds_63 ?_
      refine V_vlJ h (fun v7 h => ?_)
      refine V_lstore_n (lv' := [(2, .long v7), (5, .int v3), (0, .ref (ad (r + 2) 2)), (1, .int b1), (4, .int x4)]) hC dX7_sumAdds_64 (Nat.le_of_ble_eq_true rfl) rfl ?_
      refine V_vi h (fun v8 hvv8 h => ?_)
      refine V_iinc (v := v8) (lv' := [(4, .int v8), (2, .long v7), (5, .int v3), (0, .ref (ad (r + 2) 2)), (1, .int b1)]) hC 4 dX7_sumAdds_65 rfl hvv8.symm (Nat.le_of_ble_eq_true rfl) rfl ?_
      refine V_goto (tgt := 18) hC dX7_sumAdds_68 (by decide) ?_
      refine V_lv (lv' := [(0, .ref (ad (r + 2) 2)), (1, .int b1), (2, .long v7), (4, .int v8)]) [3, 4, 1, 0] rfl ?_
      exact ih v7 v8 H5 h
def L_X7_sumAdds_2 (r : Nat) (k : Hp → Option (Unit × Hp)) : Nat → Int32 → Hp → Option (Unit × Hp)
  | 0, _, _ => none
  | n + 1, x1, H => if (gI H (r + 2) 1 10) ≤ x1 then k H else L_X7_sumAdds_18 r x1 (fun (H9 : Hp) => vl (x1 + (1 : Int32)) (fun (v10 : Int32) => L_X7_sumAdds_2 r k n v10 H9)) FU 0 0 H
set_option maxRecDepth 100000 in
set_option maxHeartbeats 4000000 in
theorem sL_X7_sumAdds_2 {p : Program} {l : Launch} {e : Env} {s : State} {m : MethodId} {args : Array Value} {below : List Frame} {meth : Method} {c : Code} {A : Nat → Prop} {D : va_G} {K4 : kQ} {ad : Nat → Nat → Nat} {nr : Nat} {r : Nat} {k : Hp → Option (Unit × Hp)} {res : Unit × Hp} (hC : Cx p s m args c A s.heap D K4 6 RX7 cX7_sumAdds) (hret : meth.sig.returnType = none ∧ meth.locks = false) (hr_r : r < nr) (hk : ∀ (H : Hp), k H = some res → V p l e ({ frames := 1, cells := 0, slots := 0, locals := 21 }) s m args below meth c A s.heap (QU below args s A D K4 ad nr res) D K4 ad nr 6 77 [] [] H) : ∀ (n : Nat) (x1 : Int32) (H : Hp), L_X7_sumAdds_2 r k n x1 H = some res → V p l e ({ frames := 1, cells := 0, slots := 0, locals := 21 }) s m args below meth c A s.heap (QU below args s A D K4 ad nr res) D K4 ad nr 6 2 [(0, .ref (ad (r + 2) 2)), (1, .int x1)] [] H := by
  intro n
  induction n with
  | zero => intro x1 H h; exact nomatch (show (none : Option (Unit × Hp)) = some res from h)
  | succ n ih =>
    intro x1 H h
    rw [L_X7_sumAdds_2] at h
    refine V_iload_n hC 1 dX7_sumAdds_2 rfl ?_
    refine V_aload_n hC 0 dX7_sumAdds_3 rfl ?_
    refine V_getR (g := (r + 2)) (k := 2) (g' := (r + 2)) (k' := 1) hC 7 0 fl_X7_37 (okR hr_r rfl) rfl rfl rfl dX7_sumAdds_4 ?_
    refine V_getI (g := (r + 2)) (k := 1) hC 3 10 fl_X7_57 (okR hr_r rfl) rfl rfl dX7_sumAdds_7 ?_
    refine V_icmp_ge (tgt := 77) hC dX7_sumAdds_10 (by decide) (fun c1 => ?_) (fun c1 => ?_)
    · have h := it_pos c1 h
      refine V_lv (lv' := []) [] rfl ?_
      exact hk H h
    · have h := it_neg c1 h
      refine V_lconst (v := 0) hC dX7_sumAdds_13 (by decide) ?_
      refine V_lstore_n (lv' := [(2, .long 0), (0, .ref (ad (r + 2) 2)), (1, .int x1)]) hC dX7_sumAdds_14 (Nat.le_of_ble_eq_true rfl) rfl ?_
      refine V_iconst (v := 0) hC dX7_sumAdds_15 (by decide) ?_
      refine V_istore (lv' := [(4, .int 0), (2, .long 0), (0, .ref (ad (r + 2) 2)), (1, .int x1)]) hC dX7_sumAdds_16 (Nat.le_of_ble_eq_true rfl) rfl ?_
      refine V_lv (lv' := [(0, .ref (ad (r + 2) 2)), (1, .int x1), (2, .long 0), (4, .int 0)]) [2, 3, 1, 0] rfl ?_
      refine sL_X7_sumAdds_18 hC hret hr_r (fun H9 h => ?_) _ 0 0 H h
      refine V_vi h (fun v10 hvv10 h => ?_)
      refine V_iinc (v := v10) (lv' := [(1, .int v10), (0, .ref (ad (r + 2) 2))]) hC 1 dX7_sumAdds_71 rfl hvv10.symm (Nat.le_of_ble_eq_true rfl) rfl ?_
      refine V_goto (tgt := 2) hC dX7_sumAdds_74 (by decide) ?_
      refine V_lv (lv' := [(0, .ref (ad (r + 2) 2)), (1, .int v10)]) [1, 0] rfl ?_
      exact ih v10 H9 h
def f_X7_sumAdds (r : Nat) (H : Hp) : Option (Unit × Hp) := L_X7_sumAdds_2 r (fun (H11 : Hp) => some ((), H11)) FU 0 H
set_option maxRecDepth 100000 in
set_option maxHeartbeats 4000000 in
theorem s_X7_sumAdds {p : Program} {l : Launch} {e : Env} {s : State} {m : MethodId} {args : Array Value} {below : List Frame} {meth : Method} {c : Code} {A : Nat → Prop} {D : va_G} {K4 : kQ} {ad : Nat → Nat → Nat} {nr : Nat} {r : Nat} {H : Hp} {res : Unit × Hp} (hC : Cx p s m args c A s.heap D K4 6 RX7 cX7_sumAdds) (hret : meth.sig.returnType = none ∧ meth.locks = false) (hr_r : r < nr) (h : f_X7_sumAdds r H = some res) : V p l e ({ frames := 1, cells := 0, slots := 0, locals := 21 }) s m args below meth c A s.heap (QU below args s A D K4 ad nr res) D K4 ad nr 6 0 [(0, .ref (ad (r + 2) 2))] [] H := by
  unfold f_X7_sumAdds at h
  refine V_iconst (v := 0) hC dX7_sumAdds_0 (by decide) ?_
  refine V_istore_n (lv' := [(1, .int 0), (0, .ref (ad (r + 2) 2))]) hC dX7_sumAdds_1 (Nat.le_of_ble_eq_true rfl) rfl ?_
  refine V_lv (lv' := [(0, .ref (ad (r + 2) 2)), (1, .int 0)]) [1, 0] rfl ?_
  refine sL_X7_sumAdds_2 hC hret hr_r (fun H11 h => ?_) _ 0 H h
  exact V_vret hC hret dX7_sumAdds_77 h
theorem c_X7_sumAdds (l : Launch) {nr : Nat} {r : Nat} (hr_r : r < nr) {H : Hp} {x : Unit} {H' : Hp} (h : f_X7_sumAdds r H = some (x, H')) : CU l nr yX7_sumAdds cX7_sumAdds 6 none 1 21 (fun ad => [.ref (ad (r + 2) 2)]) H x H' := by
  intro D K4 ad sz
  refine Met.ofV (by decide) (Nat.le_of_ble_eq_true rfl) ?_
  intro p e s m args below meth c hC hret hsz
  subst hsz
  exact s_X7_sumAdds hC hret hr_r h
theorem dX7_setBases_0 : decode cX7_setBases 0 = .ok (.iconst 0, 1) := by decide +kernel
theorem dX7_setBases_1 : decode cX7_setBases 1 = .ok (.istore_n 1, 1) := by decide +kernel
theorem dX7_setBases_2 : decode cX7_setBases 2 = .ok (.iload_n 1, 1) := by decide +kernel
theorem dX7_setBases_3 : decode cX7_setBases 3 = .ok (.aload_n 0, 1) := by decide +kernel
theorem dX7_setBases_4 : decode cX7_setBases 4 = .ok (.getfield 37, 3) := by decide +kernel
theorem dX7_setBases_7 : decode cX7_setBases 7 = .ok (.getfield 57, 3) := by decide +kernel
theorem dX7_setBases_10 : decode cX7_setBases 10 = .ok (.if_icmp .ge 18, 3) := by decide +kernel
theorem dX7_setBases_13 : decode cX7_setBases 13 = .ok (.aload_n 0, 1) := by decide +kernel
theorem dX7_setBases_14 : decode cX7_setBases 14 = .ok (.getfield 15, 3) := by decide +kernel
theorem dX7_setBases_17 : decode cX7_setBases 17 = .ok (.iload_n 1, 1) := by decide +kernel
theorem dX7_setBases_18 : decode cX7_setBases 18 = .ok (.ldc2_w 87, 3) := by decide +kernel
theorem dX7_setBases_21 : decode cX7_setBases 21 = .ok (.lastore, 1) := by decide +kernel
theorem dX7_setBases_22 : decode cX7_setBases 22 = .ok (.iinc 1 1, 3) := by decide +kernel
theorem dX7_setBases_25 : decode cX7_setBases 25 = .ok (.goto (-23), 3) := by decide +kernel
theorem dX7_setBases_28 : decode cX7_setBases 28 = .ok (.iconst 0, 1) := by decide +kernel
theorem dX7_setBases_29 : decode cX7_setBases 29 = .ok (.istore_n 1, 1) := by decide +kernel
theorem dX7_setBases_30 : decode cX7_setBases 30 = .ok (.iload_n 1, 1) := by decide +kernel
theorem dX7_setBases_31 : decode cX7_setBases 31 = .ok (.aload_n 0, 1) := by decide +kernel
theorem dX7_setBases_32 : decode cX7_setBases 32 = .ok (.getfield 37, 3) := by decide +kernel
theorem dX7_setBases_35 : decode cX7_setBases 35 = .ok (.getfield 89, 3) := by decide +kernel
theorem dX7_setBases_38 : decode cX7_setBases 38 = .ok (.if_icmp .ge 36, 3) := by decide +kernel
theorem dX7_setBases_41 : decode cX7_setBases 41 = .ok (.aload_n 0, 1) := by decide +kernel
theorem dX7_setBases_42 : decode cX7_setBases 42 = .ok (.getfield 37, 3) := by decide +kernel
theorem dX7_setBases_45 : decode cX7_setBases 45 = .ok (.getfield 80, 3) := by decide +kernel
theorem dX7_setBases_48 : decode cX7_setBases 48 = .ok (.iload_n 1, 1) := by decide +kernel
theorem dX7_setBases_49 : decode cX7_setBases 49 = .ok (.baload, 1) := by decide +kernel
theorem dX7_setBases_50 : decode cX7_setBases 50 = .ok (.ifCond .eq 18, 3) := by decide +kernel
theorem dX7_setBases_53 : decode cX7_setBases 53 = .ok (.aload_n 0, 1) := by decide +kernel
theorem dX7_setBases_54 : decode cX7_setBases 54 = .ok (.getfield 15, 3) := by decide +kernel
theorem dX7_setBases_57 : decode cX7_setBases 57 = .ok (.aload_n 0, 1) := by decide +kernel
theorem dX7_setBases_58 : decode cX7_setBases 58 = .ok (.getfield 37, 3) := by decide +kernel
theorem dX7_setBases_61 : decode cX7_setBases 61 = .ok (.getfield 84, 3) := by decide +kernel
theorem dX7_setBases_64 : decode cX7_setBases 64 = .ok (.iload_n 1, 1) := by decide +kernel
theorem dX7_setBases_65 : decode cX7_setBases 65 = .ok (.iaload, 1) := by decide +kernel
theorem dX7_setBases_66 : decode cX7_setBases 66 = .ok (.lconst 0, 1) := by decide +kernel
theorem dX7_setBases_67 : decode cX7_setBases 67 = .ok (.lastore, 1) := by decide +kernel
theorem dX7_setBases_68 : decode cX7_setBases 68 = .ok (.iinc 1 1, 3) := by decide +kernel
theorem dX7_setBases_71 : decode cX7_setBases 71 = .ok (.goto (-41), 3) := by decide +kernel
theorem dX7_setBases_74 : decode cX7_setBases 74 = .ok (.aload_n 0, 1) := by decide +kernel
theorem dX7_setBases_75 : decode cX7_setBases 75 = .ok (.aload_n 0, 1) := by decide +kernel
theorem dX7_setBases_76 : decode cX7_setBases 76 = .ok (.getfield 9, 3) := by decide +kernel
theorem dX7_setBases_79 : decode cX7_setBases 79 = .ok (.iconst 0, 1) := by decide +kernel
theorem dX7_setBases_80 : decode cX7_setBases 80 = .ok (.laload, 1) := by decide +kernel
theorem dX7_setBases_81 : decode cX7_setBases 81 = .ok (.putfield 51, 3) := by decide +kernel
theorem dX7_setBases_84 : decode cX7_setBases 84 = .ok (.iconst 0, 1) := by decide +kernel
theorem dX7_setBases_85 : decode cX7_setBases 85 = .ok (.istore_n 1, 1) := by decide +kernel
theorem dX7_setBases_86 : decode cX7_setBases 86 = .ok (.iload_n 1, 1) := by decide +kernel
theorem dX7_setBases_87 : decode cX7_setBases 87 = .ok (.aload_n 0, 1) := by decide +kernel
theorem dX7_setBases_88 : decode cX7_setBases 88 = .ok (.getfield 37, 3) := by decide +kernel
theorem dX7_setBases_91 : decode cX7_setBases 91 = .ok (.getfield 57, 3) := by decide +kernel
theorem dX7_setBases_94 : decode cX7_setBases 94 = .ok (.if_icmp .ge 47, 3) := by decide +kernel
theorem dX7_setBases_97 : decode cX7_setBases 97 = .ok (.aload_n 0, 1) := by decide +kernel
theorem dX7_setBases_98 : decode cX7_setBases 98 = .ok (.getfield 15, 3) := by decide +kernel
theorem dX7_setBases_101 : decode cX7_setBases 101 = .ok (.iload_n 1, 1) := by decide +kernel
theorem dX7_setBases_102 : decode cX7_setBases 102 = .ok (.laload, 1) := by decide +kernel
theorem dX7_setBases_103 : decode cX7_setBases 103 = .ok (.ldc2_w 87, 3) := by decide +kernel
theorem dX7_setBases_106 : decode cX7_setBases 106 = .ok (.lcmp, 1) := by decide +kernel
theorem dX7_setBases_107 : decode cX7_setBases 107 = .ok (.ifCond .eq 28, 3) := by decide +kernel
theorem dX7_setBases_110 : decode cX7_setBases 110 = .ok (.aload_n 0, 1) := by decide +kernel
theorem dX7_setBases_111 : decode cX7_setBases 111 = .ok (.getfield 15, 3) := by decide +kernel
theorem dX7_setBases_114 : decode cX7_setBases 114 = .ok (.iload_n 1, 1) := by decide +kernel
theorem dX7_setBases_115 : decode cX7_setBases 115 = .ok (.aload_n 0, 1) := by decide +kernel
theorem dX7_setBases_116 : decode cX7_setBases 116 = .ok (.getfield 51, 3) := by decide +kernel
theorem dX7_setBases_119 : decode cX7_setBases 119 = .ok (.lastore, 1) := by decide +kernel
theorem dX7_setBases_120 : decode cX7_setBases 120 = .ok (.aload_n 0, 1) := by decide +kernel
theorem dX7_setBases_121 : decode cX7_setBases 121 = .ok (.dup, 1) := by decide +kernel
theorem dX7_setBases_122 : decode cX7_setBases 122 = .ok (.getfield 51, 3) := by decide +kernel
theorem dX7_setBases_125 : decode cX7_setBases 125 = .ok (.aload_n 0, 1) := by decide +kernel
theorem dX7_setBases_126 : decode cX7_setBases 126 = .ok (.getfield 9, 3) := by decide +kernel
theorem dX7_setBases_129 : decode cX7_setBases 129 = .ok (.iload_n 1, 1) := by decide +kernel
theorem dX7_setBases_130 : decode cX7_setBases 130 = .ok (.laload, 1) := by decide +kernel
theorem dX7_setBases_131 : decode cX7_setBases 131 = .ok (.ladd, 1) := by decide +kernel
theorem dX7_setBases_132 : decode cX7_setBases 132 = .ok (.putfield 51, 3) := by decide +kernel
theorem dX7_setBases_135 : decode cX7_setBases 135 = .ok (.iinc 1 1, 3) := by decide +kernel
theorem dX7_setBases_138 : decode cX7_setBases 138 = .ok (.goto (-52), 3) := by decide +kernel
theorem dX7_setBases_141 : decode cX7_setBases 141 = .ok (.return_, 1) := by decide +kernel
def L_X7_setBases_2 (r : Nat) (k : Hp → Option (Unit × Hp)) : Nat → Int32 → Hp → Option (Unit × Hp)
  | 0, _, _ => none
  | n + 1, x1, H => if (gI H (r + 2) 1 10) ≤ x1 then k H else gd x1 20 (hl (sJ H (r + 2) 19 (Int32.toNatClampNeg x1) (-1)) (fun (H2 : Hp) => vl (x1 + (1 : Int32)) (fun (v3 : Int32) => L_X7_setBases_2 r k n v3 H2)))
set_option maxRecDepth 100000 in
set_option maxHeartbeats 4000000 in
theorem sL_X7_setBases_2 {p : Program} {l : Launch} {e : Env} {s : State} {m : MethodId} {args : Array Value} {below : List Frame} {meth : Method} {c : Code} {A : Nat → Prop} {D : va_G} {K4 : kQ} {ad : Nat → Nat → Nat} {nr : Nat} {r : Nat} {k : Hp → Option (Unit × Hp)} {res : Unit × Hp} (hC : Cx p s m args c A s.heap D K4 2 RX7 cX7_setBases) (hret : meth.sig.returnType = none ∧ meth.locks = false) (hr_r : r < nr) (hk : ∀ (H : Hp), k H = some res → V p l e ({ frames := 0, cells := 0, slots := 0, locals := 0 }) s m args below meth c A s.heap (QU below args s A D K4 ad nr res) D K4 ad nr 2 28 [(0, .ref (ad (r + 2) 2))] [] H) : ∀ (n : Nat) (x1 : Int32) (H : Hp), L_X7_setBases_2 r k n x1 H = some res → V p l e ({ frames := 0, cells := 0, slots := 0, locals := 0 }) s m args below meth c A s.heap (QU below args s A D K4 ad nr res) D K4 ad nr 2 2 [(0, .ref (ad (r + 2) 2)), (1, .int x1)] [] H := by
  intro n
  induction n with
  | zero => intro x1 H h; exact nomatch (show (none : Option (Unit × Hp)) = some res from h)
  | succ n ih =>
    intro x1 H h
    rw [L_X7_setBases_2] at h
    refine V_iload_n hC 1 dX7_setBases_2 rfl ?_
    refine V_aload_n hC 0 dX7_setBases_3 rfl ?_
    refine V_getR (g := (r + 2)) (k := 2) (g' := (r + 2)) (k' := 1) hC 7 0 fl_X7_37 (okR hr_r rfl) rfl rfl rfl dX7_setBases_4 ?_
    refine V_getI (g := (r + 2)) (k := 1) hC 3 10 fl_X7_57 (okR hr_r rfl) rfl rfl dX7_setBases_7 ?_
    refine V_icmp_ge (tgt := 28) hC dX7_setBases_10 (by decide) (fun c1 => ?_) (fun c1 => ?_)
    · have h := it_pos c1 h
      refine V_lv (lv' := [(0, .ref (ad (r + 2) 2))]) [0] rfl ?_
      exact hk H h
    · have h := it_neg c1 h
      refine V_aload_n hC 0 dX7_setBases_13 rfl ?_
      refine V_getR (g := (r + 2)) (k := 2) (g' := (r + 2)) (k' := 19) hC 7 2 fl_X7_15 (okR hr_r rfl) rfl rfl rfl dX7_setBases_14 ?_
      refine V_iload_n hC 1 dX7_setBases_17 rfl ?_
      refine V_ldc2 hC dX7_setBases_18 cl_X7_87 ?_
      obtain ⟨hi, h⟩ := gd_some h
      refine V_last (g := (r + 2)) (k := 19) hC (okR hr_r rfl) rfl hi dX7_setBases_21 ?_
      refine V_hl h (fun H2 h => ?_)
      refine V_vi h (fun v3 hvv3 h => ?_)
      refine V_iinc (v := v3) (lv' := [(1, .int v3), (0, .ref (ad (r + 2) 2))]) hC 1 dX7_setBases_22 rfl hvv3.symm (Nat.le_of_ble_eq_true rfl) rfl ?_
      refine V_goto (tgt := 2) hC dX7_setBases_25 (by decide) ?_
      refine V_lv (lv' := [(0, .ref (ad (r + 2) 2)), (1, .int v3)]) [1, 0] rfl ?_
      exact ih v3 H2 h
def L_X7_setBases_30 (r : Nat) (k : Hp → Option (Unit × Hp)) : Nat → Int32 → Hp → Option (Unit × Hp)
  | 0, _, _ => none
  | n + 1, x1, H => if (gI H (r + 2) 1 11) ≤ x1 then k H else gd x1 40 (if (gI H (r + 2) 16 (Int32.toNatClampNeg x1)) = 0 then vl (x1 + (1 : Int32)) (fun (v7 : Int32) => L_X7_setBases_30 r k n v7 H) else gd x1 61 (gd (gI H (r + 2) 14 (Int32.toNatClampNeg x1)) 20 (hl (sJ H (r + 2) 19 (Int32.toNatClampNeg (gI H (r + 2) 14 (Int32.toNatClampNeg x1))) 0) (fun (H8 : Hp) => vl (x1 + (1 : Int32)) (fun (v9 : Int32) => L_X7_setBases_30 r k n v9 H8)))))
set_option maxRecDepth 100000 in
set_option maxHeartbeats 4000000 in
theorem sL_X7_setBases_30 {p : Program} {l : Launch} {e : Env} {s : State} {m : MethodId} {args : Array Value} {below : List Frame} {meth : Method} {c : Code} {A : Nat → Prop} {D : va_G} {K4 : kQ} {ad : Nat → Nat → Nat} {nr : Nat} {r : Nat} {k : Hp → Option (Unit × Hp)} {res : Unit × Hp} (hC : Cx p s m args c A s.heap D K4 2 RX7 cX7_setBases) (hret : meth.sig.returnType = none ∧ meth.locks = false) (hr_r : r < nr) (hk : ∀ (H : Hp), k H = some res → V p l e ({ frames := 0, cells := 0, slots := 0, locals := 0 }) s m args below meth c A s.heap (QU below args s A D K4 ad nr res) D K4 ad nr 2 74 [(0, .ref (ad (r + 2) 2))] [] H) : ∀ (n : Nat) (x1 : Int32) (H : Hp), L_X7_setBases_30 r k n x1 H = some res → V p l e ({ frames := 0, cells := 0, slots := 0, locals := 0 }) s m args below meth c A s.heap (QU below args s A D K4 ad nr res) D K4 ad nr 2 30 [(0, .ref (ad (r + 2) 2)), (1, .int x1)] [] H := by
  intro n
  induction n with
  | zero => intro x1 H h; exact nomatch (show (none : Option (Unit × Hp)) = some res from h)
  | succ n ih =>
    intro x1 H h
    rw [L_X7_setBases_30] at h
    refine V_iload_n hC 1 dX7_setBases_30 rfl ?_
    refine V_aload_n hC 0 dX7_setBases_31 rfl ?_
    refine V_getR (g := (r + 2)) (k := 2) (g' := (r + 2)) (k' := 1) hC 7 0 fl_X7_37 (okR hr_r rfl) rfl rfl rfl dX7_setBases_32 ?_
    refine V_getI (g := (r + 2)) (k := 1) hC 3 11 fl_X7_89 (okR hr_r rfl) rfl rfl dX7_setBases_35 ?_
    refine V_icmp_ge (tgt := 74) hC dX7_setBases_38 (by decide) (fun c5 => ?_) (fun c5 => ?_)
    · have h := it_pos c5 h
      refine V_lv (lv' := [(0, .ref (ad (r + 2) 2))]) [0] rfl ?_
      exact hk H h
    · have h := it_neg c5 h
      refine V_aload_n hC 0 dX7_setBases_41 rfl ?_
      refine V_getR (g := (r + 2)) (k := 2) (g' := (r + 2)) (k' := 1) hC 7 0 fl_X7_37 (okR hr_r rfl) rfl rfl rfl dX7_setBases_42 ?_
      refine V_getR (g := (r + 2)) (k := 1) (g' := (r + 2)) (k' := 16) hC 3 8 fl_X7_80 (okR hr_r rfl) rfl rfl rfl dX7_setBases_45 ?_
      refine V_iload_n hC 1 dX7_setBases_48 rfl ?_
      obtain ⟨hi, h⟩ := gd_some h
      refine V_zald (g := (r + 2)) (k := 16) hC (okR hr_r rfl) rfl hi dX7_setBases_49 ?_
      refine V_if_eq (tgt := 68) hC dX7_setBases_50 (by decide) (fun c6 => ?_) (fun c6 => ?_)
      · have h := it_pos c6 h
        refine V_vi h (fun v7 hvv7 h => ?_)
        refine V_iinc (v := v7) (lv' := [(1, .int v7), (0, .ref (ad (r + 2) 2))]) hC 1 dX7_setBases_68 rfl hvv7.symm (Nat.le_of_ble_eq_true rfl) rfl ?_
        refine V_goto (tgt := 30) hC dX7_setBases_71 (by decide) ?_
        refine V_lv (lv' := [(0, .ref (ad (r + 2) 2)), (1, .int v7)]) [1, 0] rfl ?_
        exact ih v7 H h
      · have h := it_neg c6 h
        refine V_aload_n hC 0 dX7_setBases_53 rfl ?_
        refine V_getR (g := (r + 2)) (k := 2) (g' := (r + 2)) (k' := 19) hC 7 2 fl_X7_15 (okR hr_r rfl) rfl rfl rfl dX7_setBases_54 ?_
        refine V_aload_n hC 0 dX7_setBases_57 rfl ?_
        refine V_getR (g := (r + 2)) (k := 2) (g' := (r + 2)) (k' := 1) hC 7 0 fl_X7_37 (okR hr_r rfl) rfl rfl rfl dX7_setBases_58 ?_
        refine V_getR (g := (r + 2)) (k := 1) (g' := (r + 2)) (k' := 14) hC 3 6 fl_X7_84 (okR hr_r rfl) rfl rfl rfl dX7_setBases_61 ?_
        refine V_iload_n hC 1 dX7_setBases_64 rfl ?_
        obtain ⟨hi, h⟩ := gd_some h
        refine V_iald (g := (r + 2)) (k := 14) hC (okR hr_r rfl) rfl hi dX7_setBases_65 ?_
        refine V_lconst (v := 0) hC dX7_setBases_66 (by decide) ?_
        obtain ⟨hi, h⟩ := gd_some h
        refine V_last (g := (r + 2)) (k := 19) hC (okR hr_r rfl) rfl hi dX7_setBases_67 ?_
        refine V_hl h (fun H8 h => ?_)
        refine V_vi h (fun v9 hvv9 h => ?_)
        refine V_iinc (v := v9) (lv' := [(1, .int v9), (0, .ref (ad (r + 2) 2))]) hC 1 dX7_setBases_68 rfl hvv9.symm (Nat.le_of_ble_eq_true rfl) rfl ?_
        refine V_goto (tgt := 30) hC dX7_setBases_71 (by decide) ?_
        refine V_lv (lv' := [(0, .ref (ad (r + 2) 2)), (1, .int v9)]) [1, 0] rfl ?_
        exact ih v9 H8 h
def L_X7_setBases_86 (r : Nat) (k : Hp → Option (Unit × Hp)) : Nat → Int32 → Hp → Option (Unit × Hp)
  | 0, _, _ => none
  | n + 1, x1, H => if (gI H (r + 2) 1 10) ≤ x1 then k H else gd x1 20 (if (lg_cmp (gJ H (r + 2) 19 (Int32.toNatClampNeg x1)) (-1)) = 0 then vl (x1 + (1 : Int32)) (fun (v14 : Int32) => L_X7_setBases_86 r k n v14 H) else gd x1 20 (hl (sJ H (r + 2) 19 (Int32.toNatClampNeg x1) (gJ H (r + 2) 2 10)) (fun (H15 : Hp) => gd x1 20 (hl (sJ H15 (r + 2) 2 10 ((gJ H15 (r + 2) 2 10) + (gJ H15 (r + 2) 18 (Int32.toNatClampNeg x1)))) (fun (H16 : Hp) => vl (x1 + (1 : Int32)) (fun (v17 : Int32) => L_X7_setBases_86 r k n v17 H16))))))
set_option maxRecDepth 100000 in
set_option maxHeartbeats 4000000 in
theorem sL_X7_setBases_86 {p : Program} {l : Launch} {e : Env} {s : State} {m : MethodId} {args : Array Value} {below : List Frame} {meth : Method} {c : Code} {A : Nat → Prop} {D : va_G} {K4 : kQ} {ad : Nat → Nat → Nat} {nr : Nat} {r : Nat} {k : Hp → Option (Unit × Hp)} {res : Unit × Hp} (hC : Cx p s m args c A s.heap D K4 2 RX7 cX7_setBases) (hret : meth.sig.returnType = none ∧ meth.locks = false) (hr_r : r < nr) (hk : ∀ (H : Hp), k H = some res → V p l e ({ frames := 0, cells := 0, slots := 0, locals := 0 }) s m args below meth c A s.heap (QU below args s A D K4 ad nr res) D K4 ad nr 2 141 [] [] H) : ∀ (n : Nat) (x1 : Int32) (H : Hp), L_X7_setBases_86 r k n x1 H = some res → V p l e ({ frames := 0, cells := 0, slots := 0, locals := 0 }) s m args below meth c A s.heap (QU below args s A D K4 ad nr res) D K4 ad nr 2 86 [(0, .ref (ad (r + 2) 2)), (1, .int x1)] [] H := by
  intro n
  induction n with
  | zero => intro x1 H h; exact nomatch (show (none : Option (Unit × Hp)) = some res from h)
  | succ n ih =>
    intro x1 H h
    rw [L_X7_setBases_86] at h
    refine V_iload_n hC 1 dX7_setBases_86 rfl ?_
    refine V_aload_n hC 0 dX7_setBases_87 rfl ?_
    refine V_getR (g := (r + 2)) (k := 2) (g' := (r + 2)) (k' := 1) hC 7 0 fl_X7_37 (okR hr_r rfl) rfl rfl rfl dX7_setBases_88 ?_
    refine V_getI (g := (r + 2)) (k := 1) hC 3 10 fl_X7_57 (okR hr_r rfl) rfl rfl dX7_setBases_91 ?_
    refine V_icmp_ge (tgt := 141) hC dX7_setBases_94 (by decide) (fun c12 => ?_) (fun c12 => ?_)
    · have h := it_pos c12 h
      refine V_lv (lv' := []) [] rfl ?_
      exact hk H h
    · have h := it_neg c12 h
      refine V_aload_n hC 0 dX7_setBases_97 rfl ?_
      refine V_getR (g := (r + 2)) (k := 2) (g' := (r + 2)) (k' := 19) hC 7 2 fl_X7_15 (okR hr_r rfl) rfl rfl rfl dX7_setBases_98 ?_
      refine V_iload_n hC 1 dX7_setBases_101 rfl ?_
      obtain ⟨hi, h⟩ := gd_some h
      refine V_lald (g := (r + 2)) (k := 19) hC (okR hr_r rfl) rfl hi dX7_setBases_102 ?_
      refine V_ldc2 hC dX7_setBases_103 cl_X7_87 ?_
      refine V_lcmp hC dX7_setBases_106 ?_
      refine V_if_eq (tgt := 135) hC dX7_setBases_107 (by decide) (fun c13 => ?_) (fun c13 => ?_)
      · have h := it_pos c13 h
        refine V_vi h (fun v14 hvv14 h => ?_)
        refine V_iinc (v := v14) (lv' := [(1, .int v14), (0, .ref (ad (r + 2) 2))]) hC 1 dX7_setBases_135 rfl hvv14.symm (Nat.le_of_ble_eq_true rfl) rfl ?_
        refine V_goto (tgt := 86) hC dX7_setBases_138 (by decide) ?_
        refine V_lv (lv' := [(0, .ref (ad (r + 2) 2)), (1, .int v14)]) [1, 0] rfl ?_
        exact ih v14 H h
      · have h := it_neg c13 h
        refine V_aload_n hC 0 dX7_setBases_110 rfl ?_
        refine V_getR (g := (r + 2)) (k := 2) (g' := (r + 2)) (k' := 19) hC 7 2 fl_X7_15 (okR hr_r rfl) rfl rfl rfl dX7_setBases_111 ?_
        refine V_iload_n hC 1 dX7_setBases_114 rfl ?_
        refine V_aload_n hC 0 dX7_setBases_115 rfl ?_
        refine V_getJ (g := (r + 2)) (k := 2) hC 7 10 fl_X7_51 (okR hr_r rfl) rfl rfl dX7_setBases_116 ?_
        obtain ⟨hi, h⟩ := gd_some h
        refine V_last (g := (r + 2)) (k := 19) hC (okR hr_r rfl) rfl hi dX7_setBases_119 ?_
        refine V_hl h (fun H15 h => ?_)
        refine V_aload_n hC 0 dX7_setBases_120 rfl ?_
        refine V_dup hC dX7_setBases_121 rfl ?_
        refine V_getJ (g := (r + 2)) (k := 2) hC 7 10 fl_X7_51 (okR hr_r rfl) rfl rfl dX7_setBases_122 ?_
        refine V_aload_n hC 0 dX7_setBases_125 rfl ?_
        refine V_getR (g := (r + 2)) (k := 2) (g' := (r + 2)) (k' := 18) hC 7 1 fl_X7_9 (okR hr_r rfl) rfl rfl rfl dX7_setBases_126 ?_
        refine V_iload_n hC 1 dX7_setBases_129 rfl ?_
        obtain ⟨hi, h⟩ := gd_some h
        refine V_lald (g := (r + 2)) (k := 18) hC (okR hr_r rfl) rfl hi dX7_setBases_130 ?_
        refine V_ladd hC dX7_setBases_131 ?_
        refine V_putJ (g := (r + 2)) (k := 2) hC 7 10 .long fw_X7_51 (okR hr_r rfl) rfl rfl rfl rfl dX7_setBases_132 ?_
        refine V_hl h (fun H16 h => ?_)
        refine V_vi h (fun v17 hvv17 h => ?_)
        refine V_iinc (v := v17) (lv' := [(1, .int v17), (0, .ref (ad (r + 2) 2))]) hC 1 dX7_setBases_135 rfl hvv17.symm (Nat.le_of_ble_eq_true rfl) rfl ?_
        refine V_goto (tgt := 86) hC dX7_setBases_138 (by decide) ?_
        refine V_lv (lv' := [(0, .ref (ad (r + 2) 2)), (1, .int v17)]) [1, 0] rfl ?_
        exact ih v17 H16 h
def f_X7_setBases (r : Nat) (H : Hp) : Option (Unit × Hp) := L_X7_setBases_2 r (fun (H4 : Hp) => L_X7_setBases_30 r (fun (H10 : Hp) => gd 0 20 (hl (sJ H10 (r + 2) 2 10 (gJ H10 (r + 2) 18 (Int32.toNatClampNeg 0))) (fun (H11 : Hp) => L_X7_setBases_86 r (fun (H18 : Hp) => some ((), H18)) FU 0 H11))) FU 0 H4) FU 0 H
set_option maxRecDepth 100000 in
set_option maxHeartbeats 4000000 in
theorem s_X7_setBases {p : Program} {l : Launch} {e : Env} {s : State} {m : MethodId} {args : Array Value} {below : List Frame} {meth : Method} {c : Code} {A : Nat → Prop} {D : va_G} {K4 : kQ} {ad : Nat → Nat → Nat} {nr : Nat} {r : Nat} {H : Hp} {res : Unit × Hp} (hC : Cx p s m args c A s.heap D K4 2 RX7 cX7_setBases) (hret : meth.sig.returnType = none ∧ meth.locks = false) (hr_r : r < nr) (h : f_X7_setBases r H = some res) : V p l e ({ frames := 0, cells := 0, slots := 0, locals := 0 }) s m args below meth c A s.heap (QU below args s A D K4 ad nr res) D K4 ad nr 2 0 [(0, .ref (ad (r + 2) 2))] [] H := by
  unfold f_X7_setBases at h
  refine V_iconst (v := 0) hC dX7_setBases_0 (by decide) ?_
  refine V_istore_n (lv' := [(1, .int 0), (0, .ref (ad (r + 2) 2))]) hC dX7_setBases_1 (Nat.le_of_ble_eq_true rfl) rfl ?_
  refine V_lv (lv' := [(0, .ref (ad (r + 2) 2)), (1, .int 0)]) [1, 0] rfl ?_
  refine sL_X7_setBases_2 hC hret hr_r (fun H4 h => ?_) _ 0 H h
  refine V_iconst (v := 0) hC dX7_setBases_28 (by decide) ?_
  refine V_istore_n (lv' := [(1, .int 0), (0, .ref (ad (r + 2) 2))]) hC dX7_setBases_29 (Nat.le_of_ble_eq_true rfl) rfl ?_
  refine V_lv (lv' := [(0, .ref (ad (r + 2) 2)), (1, .int 0)]) [1, 0] rfl ?_
  refine sL_X7_setBases_30 hC hret hr_r (fun H10 h => ?_) _ 0 H4 h
  refine V_aload_n hC 0 dX7_setBases_74 rfl ?_
  refine V_aload_n hC 0 dX7_setBases_75 rfl ?_
  refine V_getR (g := (r + 2)) (k := 2) (g' := (r + 2)) (k' := 18) hC 7 1 fl_X7_9 (okR hr_r rfl) rfl rfl rfl dX7_setBases_76 ?_
  refine V_iconst (v := 0) hC dX7_setBases_79 (by decide) ?_
  obtain ⟨hi, h⟩ := gd_some h
  refine V_lald (g := (r + 2)) (k := 18) hC (okR hr_r rfl) rfl hi dX7_setBases_80 ?_
  refine V_putJ (g := (r + 2)) (k := 2) hC 7 10 .long fw_X7_51 (okR hr_r rfl) rfl rfl rfl rfl dX7_setBases_81 ?_
  refine V_hl h (fun H11 h => ?_)
  refine V_iconst (v := 0) hC dX7_setBases_84 (by decide) ?_
  refine V_istore_n (lv' := [(1, .int 0), (0, .ref (ad (r + 2) 2))]) hC dX7_setBases_85 (Nat.le_of_ble_eq_true rfl) rfl ?_
  refine V_lv (lv' := [(0, .ref (ad (r + 2) 2)), (1, .int 0)]) [1, 0] rfl ?_
  refine sL_X7_setBases_86 hC hret hr_r (fun H18 h => ?_) _ 0 H11 h
  exact V_vret hC hret dX7_setBases_141 h
theorem c_X7_setBases (l : Launch) {nr : Nat} {r : Nat} (hr_r : r < nr) {H : Hp} {x : Unit} {H' : Hp} (h : f_X7_setBases r H = some (x, H')) : CU l nr yX7_setBases cX7_setBases 2 none 0 0 (fun ad => [.ref (ad (r + 2) 2)]) H x H' := by
  intro D K4 ad sz
  refine Met.ofV (by decide) (Nat.le_of_ble_eq_true rfl) ?_
  intro p e s m args below meth c hC hret hsz
  subst hsz
  exact s_X7_setBases hC hret hr_r h
theorem dX7_firstFault_0 : decode cX7_firstFault 0 = .ok (.aload_n 0, 1) := by decide +kernel
theorem dX7_firstFault_1 : decode cX7_firstFault 1 = .ok (.invokevirtual 41, 3) := by decide +kernel
theorem dX7_firstFault_4 : decode cX7_firstFault 4 = .ok (.ifCond .ne 5, 3) := by decide +kernel
theorem dX7_firstFault_7 : decode cX7_firstFault 7 = .ok (.iconst 5, 1) := by decide +kernel
theorem dX7_firstFault_8 : decode cX7_firstFault 8 = .ok (.ireturn, 1) := by decide +kernel
theorem dX7_firstFault_9 : decode cX7_firstFault 9 = .ok (.aload_n 0, 1) := by decide +kernel
theorem dX7_firstFault_10 : decode cX7_firstFault 10 = .ok (.invokevirtual 45, 3) := by decide +kernel
theorem dX7_firstFault_13 : decode cX7_firstFault 13 = .ok (.aload_n 0, 1) := by decide +kernel
theorem dX7_firstFault_14 : decode cX7_firstFault 14 = .ok (.invokevirtual 48, 3) := by decide +kernel
theorem dX7_firstFault_17 : decode cX7_firstFault 17 = .ok (.aload_n 0, 1) := by decide +kernel
theorem dX7_firstFault_18 : decode cX7_firstFault 18 = .ok (.getfield 51, 3) := by decide +kernel
theorem dX7_firstFault_21 : decode cX7_firstFault 21 = .ok (.ldc2_w 55, 3) := by decide +kernel
theorem dX7_firstFault_24 : decode cX7_firstFault 24 = .ok (.lcmp, 1) := by decide +kernel
theorem dX7_firstFault_25 : decode cX7_firstFault 25 = .ok (.ifCond .le 8, 3) := by decide +kernel
theorem dX7_firstFault_28 : decode cX7_firstFault 28 = .ok (.bipush 6, 2) := by decide +kernel
theorem dX7_firstFault_30 : decode cX7_firstFault 30 = .ok (.goto 4, 3) := by decide +kernel
theorem dX7_firstFault_33 : decode cX7_firstFault 33 = .ok (.iconst 0, 1) := by decide +kernel
theorem dX7_firstFault_34 : decode cX7_firstFault 34 = .ok (.ireturn, 1) := by decide +kernel
def f_X7_firstFault (r : Nat) (H : Hp) : Option (Int32 × Hp) := bnd (f_X7_countFromBlocks r H) (fun w2 H1 => if w2 = 0 then some (5, H1) else bnd (f_X7_sumAdds r H1) (fun w5 H4 => bnd (f_X7_setBases r H4) (fun w7 H6 => if (lg_cmp (gJ H6 (r + 2) 2 10) 1000000000000) ≤ 0 then some (0, H6) else some (6, H6))))
set_option maxRecDepth 100000 in
set_option maxHeartbeats 4000000 in
theorem s_X7_firstFault {p : Program} {l : Launch} {e : Env} {s : State} {m : MethodId} {args : Array Value} {below : List Frame} {meth : Method} {c : Code} {A : Nat → Prop} {D : va_G} {K4 : kQ} {ad : Nat → Nat → Nat} {nr : Nat} {r : Nat} {H : Hp} {res : Int32 × Hp} (hC : Cx p s m args c A s.heap D K4 1 RX7 cX7_firstFault) (hret : meth.sig.returnType = (some .int) ∧ meth.locks = false) (hr_r : r < nr) (h : f_X7_firstFault r H = some res) : V p l e ({ frames := 3, cells := 0, slots := 0, locals := 69 }) s m args below meth c A s.heap (QI below args s A D K4 ad nr res) D K4 ad nr 1 0 [(0, .ref (ad (r + 2) 2))] [] H := by
  unfold f_X7_firstFault at h
  refine V_aload_n hC 0 dX7_firstFault_0 rfl ?_
  obtain ⟨w2, H1, hc, h⟩ := bnd_some h
  refine V_calli (g := (r + 2)) (k := 2) (As := []) (st := []) hC (c_X7_countFromBlocks l (hr_r := hr_r) hc) rfl ml_X7_41 ⟨Nat.le_of_ble_eq_true rfl, Nat.le_of_ble_eq_true rfl⟩ (okR hr_r rfl) rfl rfl (Nat.le_of_ble_eq_true rfl) dX7_firstFault_1 ?_
  refine V_if_ne (tgt := 9) hC dX7_firstFault_4 (by decide) (fun c3 => ?_) (fun c3 => ?_)
  · have h := it_neg c3 h
    refine V_aload_n hC 0 dX7_firstFault_9 rfl ?_
    obtain ⟨w5, H4, hc, h⟩ := bnd_some h
    refine V_callu (g := (r + 2)) (k := 2) (As := []) (st := []) hC (c_X7_sumAdds l (hr_r := hr_r) hc) rfl ml_X7_45 ⟨Nat.le_of_ble_eq_true rfl, Nat.le_of_ble_eq_true rfl⟩ (okR hr_r rfl) rfl rfl (Nat.le_of_ble_eq_true rfl) dX7_firstFault_10 ?_
    refine V_aload_n hC 0 dX7_firstFault_13 rfl ?_
    obtain ⟨w7, H6, hc, h⟩ := bnd_some h
    refine V_callu (g := (r + 2)) (k := 2) (As := []) (st := []) hC (c_X7_setBases l (hr_r := hr_r) hc) rfl ml_X7_48 ⟨Nat.le_of_ble_eq_true rfl, Nat.le_of_ble_eq_true rfl⟩ (okR hr_r rfl) rfl rfl (Nat.le_of_ble_eq_true rfl) dX7_firstFault_14 ?_
    refine V_aload_n hC 0 dX7_firstFault_17 rfl ?_
    refine V_getJ (g := (r + 2)) (k := 2) hC 7 10 fl_X7_51 (okR hr_r rfl) rfl rfl dX7_firstFault_18 ?_
    refine V_ldc2 hC dX7_firstFault_21 cl_X7_55 ?_
    refine V_lcmp hC dX7_firstFault_24 ?_
    refine V_if_le (tgt := 33) hC dX7_firstFault_25 (by decide) (fun c8 => ?_) (fun c8 => ?_)
    · have h := it_pos c8 h
      refine V_iconst (v := 0) hC dX7_firstFault_33 (by decide) ?_
      exact V_iret hC hret dX7_firstFault_34 h
    · have h := it_neg c8 h
      refine V_bipush (v := 6) hC dX7_firstFault_28 (by decide) ?_
      refine V_goto (tgt := 34) hC dX7_firstFault_30 (by decide) ?_
      exact V_iret hC hret dX7_firstFault_34 h
  · have h := it_pos c3 h
    refine V_iconst (v := 5) hC dX7_firstFault_7 (by decide) ?_
    exact V_iret hC hret dX7_firstFault_8 h
theorem c_X7_firstFault (l : Launch) {nr : Nat} {r : Nat} (hr_r : r < nr) {H : Hp} {x : Int32} {H' : Hp} (h : f_X7_firstFault r H = some (x, H')) : CI l nr yX7_firstFault cX7_firstFault 1 (some .int) 3 69 (fun ad => [.ref (ad (r + 2) 2)]) H x H' := by
  intro D K4 ad sz
  refine Met.ofV (by decide) (Nat.le_of_ble_eq_true rfl) ?_
  intro p e s m args below meth c hC hret hsz
  subst hsz
  exact s_X7_firstFault hC hret hr_r h
theorem dX7_joinTrees_0 : decode cX7_joinTrees 0 = .ok (.aload_n 0, 1) := by decide +kernel
theorem dX7_joinTrees_1 : decode cX7_joinTrees 1 = .ok (.getfield 27, 3) := by decide +kernel
theorem dX7_joinTrees_4 : decode cX7_joinTrees 4 = .ok (.aload_n 0, 1) := by decide +kernel
theorem dX7_joinTrees_5 : decode cX7_joinTrees 5 = .ok (.getfield 37, 3) := by decide +kernel
theorem dX7_joinTrees_8 : decode cX7_joinTrees 8 = .ok (.getfield 96, 3) := by decide +kernel
theorem dX7_joinTrees_11 : decode cX7_joinTrees 11 = .ok (.iload_n 1, 1) := by decide +kernel
theorem dX7_joinTrees_12 : decode cX7_joinTrees 12 = .ok (.iaload, 1) := by decide +kernel
theorem dX7_joinTrees_13 : decode cX7_joinTrees 13 = .ok (.iaload, 1) := by decide +kernel
theorem dX7_joinTrees_14 : decode cX7_joinTrees 14 = .ok (.istore_n 2, 1) := by decide +kernel
theorem dX7_joinTrees_15 : decode cX7_joinTrees 15 = .ok (.aload_n 0, 1) := by decide +kernel
theorem dX7_joinTrees_16 : decode cX7_joinTrees 16 = .ok (.getfield 27, 3) := by decide +kernel
theorem dX7_joinTrees_19 : decode cX7_joinTrees 19 = .ok (.aload_n 0, 1) := by decide +kernel
theorem dX7_joinTrees_20 : decode cX7_joinTrees 20 = .ok (.getfield 37, 3) := by decide +kernel
theorem dX7_joinTrees_23 : decode cX7_joinTrees 23 = .ok (.getfield 84, 3) := by decide +kernel
theorem dX7_joinTrees_26 : decode cX7_joinTrees 26 = .ok (.iload_n 1, 1) := by decide +kernel
theorem dX7_joinTrees_27 : decode cX7_joinTrees 27 = .ok (.iaload, 1) := by decide +kernel
theorem dX7_joinTrees_28 : decode cX7_joinTrees 28 = .ok (.iaload, 1) := by decide +kernel
theorem dX7_joinTrees_29 : decode cX7_joinTrees 29 = .ok (.istore_n 3, 1) := by decide +kernel
theorem dX7_joinTrees_30 : decode cX7_joinTrees 30 = .ok (.iload_n 2, 1) := by decide +kernel
theorem dX7_joinTrees_31 : decode cX7_joinTrees 31 = .ok (.iload_n 3, 1) := by decide +kernel
theorem dX7_joinTrees_32 : decode cX7_joinTrees 32 = .ok (.if_icmp .ne 4, 3) := by decide +kernel
theorem dX7_joinTrees_35 : decode cX7_joinTrees 35 = .ok (.return_, 1) := by decide +kernel
theorem dX7_joinTrees_36 : decode cX7_joinTrees 36 = .ok (.aload_n 0, 1) := by decide +kernel
theorem dX7_joinTrees_37 : decode cX7_joinTrees 37 = .ok (.getfield 18, 3) := by decide +kernel
theorem dX7_joinTrees_40 : decode cX7_joinTrees 40 = .ok (.aload_n 0, 1) := by decide +kernel
theorem dX7_joinTrees_41 : decode cX7_joinTrees 41 = .ok (.getfield 37, 3) := by decide +kernel
theorem dX7_joinTrees_44 : decode cX7_joinTrees 44 = .ok (.getfield 96, 3) := by decide +kernel
theorem dX7_joinTrees_47 : decode cX7_joinTrees 47 = .ok (.iload_n 1, 1) := by decide +kernel
theorem dX7_joinTrees_48 : decode cX7_joinTrees 48 = .ok (.iaload, 1) := by decide +kernel
theorem dX7_joinTrees_49 : decode cX7_joinTrees 49 = .ok (.laload, 1) := by decide +kernel
theorem dX7_joinTrees_50 : decode cX7_joinTrees 50 = .ok (.aload_n 0, 1) := by decide +kernel
theorem dX7_joinTrees_51 : decode cX7_joinTrees 51 = .ok (.getfield 21, 3) := by decide +kernel
theorem dX7_joinTrees_54 : decode cX7_joinTrees 54 = .ok (.iload_n 1, 1) := by decide +kernel
theorem dX7_joinTrees_55 : decode cX7_joinTrees 55 = .ok (.laload, 1) := by decide +kernel
theorem dX7_joinTrees_56 : decode cX7_joinTrees 56 = .ok (.ladd, 1) := by decide +kernel
theorem dX7_joinTrees_57 : decode cX7_joinTrees 57 = .ok (.aload_n 0, 1) := by decide +kernel
theorem dX7_joinTrees_58 : decode cX7_joinTrees 58 = .ok (.getfield 18, 3) := by decide +kernel
theorem dX7_joinTrees_61 : decode cX7_joinTrees 61 = .ok (.aload_n 0, 1) := by decide +kernel
theorem dX7_joinTrees_62 : decode cX7_joinTrees 62 = .ok (.getfield 37, 3) := by decide +kernel
theorem dX7_joinTrees_65 : decode cX7_joinTrees 65 = .ok (.getfield 84, 3) := by decide +kernel
theorem dX7_joinTrees_68 : decode cX7_joinTrees 68 = .ok (.iload_n 1, 1) := by decide +kernel
theorem dX7_joinTrees_69 : decode cX7_joinTrees 69 = .ok (.iaload, 1) := by decide +kernel
theorem dX7_joinTrees_70 : decode cX7_joinTrees 70 = .ok (.laload, 1) := by decide +kernel
theorem dX7_joinTrees_71 : decode cX7_joinTrees 71 = .ok (.lsub, 1) := by decide +kernel
theorem dX7_joinTrees_72 : decode cX7_joinTrees 72 = .ok (.lstore 4, 2) := by decide +kernel
theorem dX7_joinTrees_74 : decode cX7_joinTrees 74 = .ok (.iconst 0, 1) := by decide +kernel
theorem dX7_joinTrees_75 : decode cX7_joinTrees 75 = .ok (.istore 6, 2) := by decide +kernel
theorem dX7_joinTrees_77 : decode cX7_joinTrees 77 = .ok (.iload 6, 2) := by decide +kernel
theorem dX7_joinTrees_79 : decode cX7_joinTrees 79 = .ok (.aload_n 0, 1) := by decide +kernel
theorem dX7_joinTrees_80 : decode cX7_joinTrees 80 = .ok (.getfield 37, 3) := by decide +kernel
theorem dX7_joinTrees_83 : decode cX7_joinTrees 83 = .ok (.getfield 57, 3) := by decide +kernel
theorem dX7_joinTrees_86 : decode cX7_joinTrees 86 = .ok (.if_icmp .ge 70, 3) := by decide +kernel
theorem dX7_joinTrees_89 : decode cX7_joinTrees 89 = .ok (.aload_n 0, 1) := by decide +kernel
theorem dX7_joinTrees_90 : decode cX7_joinTrees 90 = .ok (.getfield 27, 3) := by decide +kernel
theorem dX7_joinTrees_93 : decode cX7_joinTrees 93 = .ok (.iload 6, 2) := by decide +kernel
theorem dX7_joinTrees_95 : decode cX7_joinTrees 95 = .ok (.iaload, 1) := by decide +kernel
theorem dX7_joinTrees_96 : decode cX7_joinTrees 96 = .ok (.iload_n 3, 1) := by decide +kernel
theorem dX7_joinTrees_97 : decode cX7_joinTrees 97 = .ok (.if_icmp .ne 30, 3) := by decide +kernel
theorem dX7_joinTrees_100 : decode cX7_joinTrees 100 = .ok (.aload_n 0, 1) := by decide +kernel
theorem dX7_joinTrees_101 : decode cX7_joinTrees 101 = .ok (.getfield 18, 3) := by decide +kernel
theorem dX7_joinTrees_104 : decode cX7_joinTrees 104 = .ok (.iload 6, 2) := by decide +kernel
theorem dX7_joinTrees_106 : decode cX7_joinTrees 106 = .ok (.dup2, 1) := by decide +kernel
theorem dX7_joinTrees_107 : decode cX7_joinTrees 107 = .ok (.laload, 1) := by decide +kernel
theorem dX7_joinTrees_108 : decode cX7_joinTrees 108 = .ok (.lload 4, 2) := by decide +kernel
theorem dX7_joinTrees_110 : decode cX7_joinTrees 110 = .ok (.ladd, 1) := by decide +kernel
theorem dX7_joinTrees_111 : decode cX7_joinTrees 111 = .ok (.lastore, 1) := by decide +kernel
theorem dX7_joinTrees_112 : decode cX7_joinTrees 112 = .ok (.aload_n 0, 1) := by decide +kernel
theorem dX7_joinTrees_113 : decode cX7_joinTrees 113 = .ok (.getfield 27, 3) := by decide +kernel
theorem dX7_joinTrees_116 : decode cX7_joinTrees 116 = .ok (.iload 6, 2) := by decide +kernel
theorem dX7_joinTrees_118 : decode cX7_joinTrees 118 = .ok (.iload_n 2, 1) := by decide +kernel
theorem dX7_joinTrees_119 : decode cX7_joinTrees 119 = .ok (.iload_n 3, 1) := by decide +kernel
theorem dX7_joinTrees_120 : decode cX7_joinTrees 120 = .ok (.invokestatic 98, 3) := by decide +kernel
theorem dX7_joinTrees_123 : decode cX7_joinTrees 123 = .ok (.iastore, 1) := by decide +kernel
theorem dX7_joinTrees_124 : decode cX7_joinTrees 124 = .ok (.goto 26, 3) := by decide +kernel
theorem dX7_joinTrees_127 : decode cX7_joinTrees 127 = .ok (.aload_n 0, 1) := by decide +kernel
theorem dX7_joinTrees_128 : decode cX7_joinTrees 128 = .ok (.getfield 27, 3) := by decide +kernel
theorem dX7_joinTrees_131 : decode cX7_joinTrees 131 = .ok (.iload 6, 2) := by decide +kernel
theorem dX7_joinTrees_133 : decode cX7_joinTrees 133 = .ok (.iaload, 1) := by decide +kernel
theorem dX7_joinTrees_134 : decode cX7_joinTrees 134 = .ok (.iload_n 2, 1) := by decide +kernel
theorem dX7_joinTrees_135 : decode cX7_joinTrees 135 = .ok (.if_icmp .ne 15, 3) := by decide +kernel
theorem dX7_joinTrees_138 : decode cX7_joinTrees 138 = .ok (.aload_n 0, 1) := by decide +kernel
theorem dX7_joinTrees_139 : decode cX7_joinTrees 139 = .ok (.getfield 27, 3) := by decide +kernel
theorem dX7_joinTrees_142 : decode cX7_joinTrees 142 = .ok (.iload 6, 2) := by decide +kernel
theorem dX7_joinTrees_144 : decode cX7_joinTrees 144 = .ok (.iload_n 2, 1) := by decide +kernel
theorem dX7_joinTrees_145 : decode cX7_joinTrees 145 = .ok (.iload_n 3, 1) := by decide +kernel
theorem dX7_joinTrees_146 : decode cX7_joinTrees 146 = .ok (.invokestatic 98, 3) := by decide +kernel
theorem dX7_joinTrees_149 : decode cX7_joinTrees 149 = .ok (.iastore, 1) := by decide +kernel
theorem dX7_joinTrees_150 : decode cX7_joinTrees 150 = .ok (.iinc 6 1, 3) := by decide +kernel
theorem dX7_joinTrees_153 : decode cX7_joinTrees 153 = .ok (.goto (-76), 3) := by decide +kernel
theorem dX7_joinTrees_156 : decode cX7_joinTrees 156 = .ok (.return_, 1) := by decide +kernel
def L_X7_joinTrees_77 (r : Nat) (b2 : Int32) (b3 : Int32) (b4 : Int64) (k : Hp → Option (Unit × Hp)) : Nat → Int32 → Hp → Option (Unit × Hp)
  | 0, _, _ => none
  | n + 1, x6, H => if (gI H (r + 2) 1 10) ≤ x6 then k H else gd x6 20 (if (gI H (r + 2) 23 (Int32.toNatClampNeg x6)) = b3 then gd x6 20 (gd x6 20 (hl (sJ H (r + 2) 20 (Int32.toNatClampNeg x6) ((gJ H (r + 2) 20 (Int32.toNatClampNeg x6)) + b4)) (fun (H11 : Hp) => gd x6 20 (hl (sI H11 (r + 2) 23 (Int32.toNatClampNeg x6) (if b3 < b2 then b3 else b2)) (fun (H12 : Hp) => vl (x6 + (1 : Int32)) (fun (v13 : Int32) => L_X7_joinTrees_77 r b2 b3 b4 k n v13 H12)))))) else gd x6 20 (if (gI H (r + 2) 23 (Int32.toNatClampNeg x6)) = b2 then gd x6 20 (hl (sI H (r + 2) 23 (Int32.toNatClampNeg x6) (if b3 < b2 then b3 else b2)) (fun (H9 : Hp) => vl (x6 + (1 : Int32)) (fun (v10 : Int32) => L_X7_joinTrees_77 r b2 b3 b4 k n v10 H9))) else vl (x6 + (1 : Int32)) (fun (v8 : Int32) => L_X7_joinTrees_77 r b2 b3 b4 k n v8 H)))
set_option maxRecDepth 100000 in
set_option maxHeartbeats 4000000 in
theorem sL_X7_joinTrees_77 {p : Program} {l : Launch} {e : Env} {s : State} {m : MethodId} {args : Array Value} {below : List Frame} {meth : Method} {c : Code} {A : Nat → Prop} {D : va_G} {K4 : kQ} {ad : Nat → Nat → Nat} {nr : Nat} {r : Nat} {b2 : Int32} {b3 : Int32} {b4 : Int64} {k : Hp → Option (Unit × Hp)} {res : Unit × Hp} (hC : Cx p s m args c A s.heap D K4 7 RX7 cX7_joinTrees) (hret : meth.sig.returnType = none ∧ meth.locks = false) (hr_r : r < nr) (hk : ∀ (H : Hp), k H = some res → V p l e ({ frames := 1, cells := 0, slots := 0, locals := 21 }) s m args below meth c A s.heap (QU below args s A D K4 ad nr res) D K4 ad nr 7 156 [] [] H) : ∀ (n : Nat) (x6 : Int32) (H : Hp), L_X7_joinTrees_77 r b2 b3 b4 k n x6 H = some res → V p l e ({ frames := 1, cells := 0, slots := 0, locals := 21 }) s m args below meth c A s.heap (QU below args s A D K4 ad nr res) D K4 ad nr 7 77 [(0, .ref (ad (r + 2) 2)), (2, .int b2), (3, .int b3), (4, .long b4), (6, .int x6)] [] H := by
  intro n
  induction n with
  | zero => intro x6 H h; exact nomatch (show (none : Option (Unit × Hp)) = some res from h)
  | succ n ih =>
    intro x6 H h
    rw [L_X7_joinTrees_77] at h
    refine V_iload hC 4 dX7_joinTrees_77 rfl ?_
    refine V_aload_n hC 0 dX7_joinTrees_79 rfl ?_
    refine V_getR (g := (r + 2)) (k := 2) (g' := (r + 2)) (k' := 1) hC 7 0 fl_X7_37 (okR hr_r rfl) rfl rfl rfl dX7_joinTrees_80 ?_
    refine V_getI (g := (r + 2)) (k := 1) hC 3 10 fl_X7_57 (okR hr_r rfl) rfl rfl dX7_joinTrees_83 ?_
    refine V_icmp_ge (tgt := 156) hC dX7_joinTrees_86 (by decide) (fun c5 => ?_) (fun c5 => ?_)
    · have h := it_pos c5 h
      refine V_lv (lv' := []) [] rfl ?_
      exact hk H h
    · have h := it_neg c5 h
      refine V_aload_n hC 0 dX7_joinTrees_89 rfl ?_
      refine V_getR (g := (r + 2)) (k := 2) (g' := (r + 2)) (k' := 23) hC 7 6 fl_X7_27 (okR hr_r rfl) rfl rfl rfl dX7_joinTrees_90 ?_
      refine V_iload hC 4 dX7_joinTrees_93 rfl ?_
      obtain ⟨hi, h⟩ := gd_some h
      refine V_iald (g := (r + 2)) (k := 23) hC (okR hr_r rfl) rfl hi dX7_joinTrees_95 ?_
      refine V_iload_n hC 2 dX7_joinTrees_96 rfl ?_
      refine V_icmp_ne (tgt := 127) hC dX7_joinTrees_97 (by decide) (fun c6 => ?_) (fun c6 => ?_)
      · have h := it_neg c6 h
        refine V_aload_n hC 0 dX7_joinTrees_127 rfl ?_
        refine V_getR (g := (r + 2)) (k := 2) (g' := (r + 2)) (k' := 23) hC 7 6 fl_X7_27 (okR hr_r rfl) rfl rfl rfl dX7_joinTrees_128 ?_
        refine V_iload hC 4 dX7_joinTrees_131 rfl ?_
        obtain ⟨hi, h⟩ := gd_some h
        refine V_iald (g := (r + 2)) (k := 23) hC (okR hr_r rfl) rfl hi dX7_joinTrees_133 ?_
        refine V_iload_n hC 1 dX7_joinTrees_134 rfl ?_
        refine V_icmp_ne (tgt := 150) hC dX7_joinTrees_135 (by decide) (fun c7 => ?_) (fun c7 => ?_)
        · have h := it_neg c7 h
          refine V_vi h (fun v8 hvv8 h => ?_)
          refine V_iinc (v := v8) (lv' := [(6, .int v8), (0, .ref (ad (r + 2) 2)), (2, .int b2), (3, .int b3), (4, .long b4)]) hC 4 dX7_joinTrees_150 rfl hvv8.symm (Nat.le_of_ble_eq_true rfl) rfl ?_
          refine V_goto (tgt := 77) hC dX7_joinTrees_153 (by decide) ?_
          refine V_lv (lv' := [(0, .ref (ad (r + 2) 2)), (2, .int b2), (3, .int b3), (4, .long b4), (6, .int v8)]) [1, 2, 3, 4, 0] rfl ?_
          exact ih v8 H h
        · have h := it_pos c7 h
          refine V_aload_n hC 0 dX7_joinTrees_138 rfl ?_
          refine V_getR (g := (r + 2)) (k := 2) (g' := (r + 2)) (k' := 23) hC 7 6 fl_X7_27 (okR hr_r rfl) rfl rfl rfl dX7_joinTrees_139 ?_
          refine V_iload hC 4 dX7_joinTrees_142 rfl ?_
          refine V_iload_n hC 1 dX7_joinTrees_144 rfl ?_
          refine V_iload_n hC 2 dX7_joinTrees_145 rfl ?_
          refine V_mmin hC mm_X7_98 ⟨Nat.le_of_ble_eq_true rfl, Nat.le_of_ble_eq_true rfl⟩ dX7_joinTrees_146 ?_
          obtain ⟨hi, h⟩ := gd_some h
          refine V_iast (g := (r + 2)) (k := 23) hC (okR hr_r rfl) rfl hi dX7_joinTrees_149 ?_
          refine V_hl h (fun H9 h => ?_)
          refine V_vi h (fun v10 hvv10 h => ?_)
          refine V_iinc (v := v10) (lv' := [(6, .int v10), (0, .ref (ad (r + 2) 2)), (2, .int b2), (3, .int b3), (4, .long b4)]) hC 4 dX7_joinTrees_150 rfl hvv10.symm (Nat.le_of_ble_eq_true rfl) rfl ?_
          refine V_goto (tgt := 77) hC dX7_joinTrees_153 (by decide) ?_
          refine V_lv (lv' := [(0, .ref (ad (r + 2) 2)), (2, .int b2), (3, .int b3), (4, .long b4), (6, .int v10)]) [1, 2, 3, 4, 0] rfl ?_
          exact ih v10 H9 h
      · have h := it_pos c6 h
        refine V_aload_n hC 0 dX7_joinTrees_100 rfl ?_
        refine V_getR (g := (r + 2)) (k := 2) (g' := (r + 2)) (k' := 20) hC 7 3 fl_X7_18 (okR hr_r rfl) rfl rfl rfl dX7_joinTrees_101 ?_
        refine V_iload hC 4 dX7_joinTrees_104 rfl ?_
        refine V_dup2 hC dX7_joinTrees_106 rfl rfl ?_
        obtain ⟨hi, h⟩ := gd_some h
        refine V_lald (g := (r + 2)) (k := 20) hC (okR hr_r rfl) rfl hi dX7_joinTrees_107 ?_
        refine V_lload hC 3 dX7_joinTrees_108 rfl ?_
        refine V_ladd hC dX7_joinTrees_110 ?_
        obtain ⟨hi, h⟩ := gd_some h
        refine V_last (g := (r + 2)) (k := 20) hC (okR hr_r rfl) rfl hi dX7_joinTrees_111 ?_
        refine V_hl h (fun H11 h => ?_)
        refine V_aload_n hC 0 dX7_joinTrees_112 rfl ?_
        refine V_getR (g := (r + 2)) (k := 2) (g' := (r + 2)) (k' := 23) hC 7 6 fl_X7_27 (okR hr_r rfl) rfl rfl rfl dX7_joinTrees_113 ?_
        refine V_iload hC 4 dX7_joinTrees_116 rfl ?_
        refine V_iload_n hC 1 dX7_joinTrees_118 rfl ?_
        refine V_iload_n hC 2 dX7_joinTrees_119 rfl ?_
        refine V_mmin hC mm_X7_98 ⟨Nat.le_of_ble_eq_true rfl, Nat.le_of_ble_eq_true rfl⟩ dX7_joinTrees_120 ?_
        obtain ⟨hi, h⟩ := gd_some h
        refine V_iast (g := (r + 2)) (k := 23) hC (okR hr_r rfl) rfl hi dX7_joinTrees_123 ?_
        refine V_hl h (fun H12 h => ?_)
        refine V_goto (tgt := 150) hC dX7_joinTrees_124 (by decide) ?_
        refine V_vi h (fun v13 hvv13 h => ?_)
        refine V_iinc (v := v13) (lv' := [(6, .int v13), (0, .ref (ad (r + 2) 2)), (2, .int b2), (3, .int b3), (4, .long b4)]) hC 4 dX7_joinTrees_150 rfl hvv13.symm (Nat.le_of_ble_eq_true rfl) rfl ?_
        refine V_goto (tgt := 77) hC dX7_joinTrees_153 (by decide) ?_
        refine V_lv (lv' := [(0, .ref (ad (r + 2) 2)), (2, .int b2), (3, .int b3), (4, .long b4), (6, .int v13)]) [1, 2, 3, 4, 0] rfl ?_
        exact ih v13 H12 h
def f_X7_joinTrees (r : Nat) (a1 : Int32) (H : Hp) : Option (Unit × Hp) := gd a1 61 (gd (gI H (r + 2) 13 (Int32.toNatClampNeg a1)) 20 (vl ((gI H (r + 2) 23 (Int32.toNatClampNeg (gI H (r + 2) 13 (Int32.toNatClampNeg a1))))) (fun (v1 : Int32) => gd a1 61 (gd (gI H (r + 2) 14 (Int32.toNatClampNeg a1)) 20 (vl ((gI H (r + 2) 23 (Int32.toNatClampNeg (gI H (r + 2) 14 (Int32.toNatClampNeg a1))))) (fun (v2 : Int32) => if v1 = v2 then some ((), H) else gd a1 61 (gd (gI H (r + 2) 13 (Int32.toNatClampNeg a1)) 20 (gd a1 40 (gd a1 61 (gd (gI H (r + 2) 14 (Int32.toNatClampNeg a1)) 20 (vl ((((gJ H (r + 2) 20 (Int32.toNatClampNeg (gI H (r + 2) 13 (Int32.toNatClampNeg a1)))) + (gJ H (r + 2) 21 (Int32.toNatClampNeg a1))) - (gJ H (r + 2) 20 (Int32.toNatClampNeg (gI H (r + 2) 14 (Int32.toNatClampNeg a1)))))) (fun (v4 : Int64) => L_X7_joinTrees_77 r v1 v2 v4 (fun (H14 : Hp) => some ((), H14)) FU 0 H))))))))))))
set_option maxRecDepth 100000 in
set_option maxHeartbeats 4000000 in
theorem s_X7_joinTrees {p : Program} {l : Launch} {e : Env} {s : State} {m : MethodId} {args : Array Value} {below : List Frame} {meth : Method} {c : Code} {A : Nat → Prop} {D : va_G} {K4 : kQ} {ad : Nat → Nat → Nat} {nr : Nat} {r : Nat} {a1 : Int32} {H : Hp} {res : Unit × Hp} (hC : Cx p s m args c A s.heap D K4 7 RX7 cX7_joinTrees) (hret : meth.sig.returnType = none ∧ meth.locks = false) (hr_r : r < nr) (h : f_X7_joinTrees r a1 H = some res) : V p l e ({ frames := 1, cells := 0, slots := 0, locals := 21 }) s m args below meth c A s.heap (QU below args s A D K4 ad nr res) D K4 ad nr 7 0 [(0, .ref (ad (r + 2) 2)), (1, .int a1)] [] H := by
  unfold f_X7_joinTrees at h
  refine V_aload_n hC 0 dX7_joinTrees_0 rfl ?_
  refine V_getR (g := (r + 2)) (k := 2) (g' := (r + 2)) (k' := 23) hC 7 6 fl_X7_27 (okR hr_r rfl) rfl rfl rfl dX7_joinTrees_1 ?_
  refine V_aload_n hC 0 dX7_joinTrees_4 rfl ?_
  refine V_getR (g := (r + 2)) (k := 2) (g' := (r + 2)) (k' := 1) hC 7 0 fl_X7_37 (okR hr_r rfl) rfl rfl rfl dX7_joinTrees_5 ?_
  refine V_getR (g := (r + 2)) (k := 1) (g' := (r + 2)) (k' := 13) hC 3 5 fl_X7_96 (okR hr_r rfl) rfl rfl rfl dX7_joinTrees_8 ?_
  refine V_iload_n hC 1 dX7_joinTrees_11 rfl ?_
  obtain ⟨hi, h⟩ := gd_some h
  refine V_iald (g := (r + 2)) (k := 13) hC (okR hr_r rfl) rfl hi dX7_joinTrees_12 ?_
  obtain ⟨hi, h⟩ := gd_some h
  refine V_iald (g := (r + 2)) (k := 23) hC (okR hr_r rfl) rfl hi dX7_joinTrees_13 ?_
  refine V_vlI h (fun v1 h => ?_)
  refine V_istore_n (lv' := [(2, .int v1), (0, .ref (ad (r + 2) 2)), (1, .int a1)]) hC dX7_joinTrees_14 (Nat.le_of_ble_eq_true rfl) rfl ?_
  refine V_aload_n hC 1 dX7_joinTrees_15 rfl ?_
  refine V_getR (g := (r + 2)) (k := 2) (g' := (r + 2)) (k' := 23) hC 7 6 fl_X7_27 (okR hr_r rfl) rfl rfl rfl dX7_joinTrees_16 ?_
  refine V_aload_n hC 1 dX7_joinTrees_19 rfl ?_
  refine V_getR (g := (r + 2)) (k := 2) (g' := (r + 2)) (k' := 1) hC 7 0 fl_X7_37 (okR hr_r rfl) rfl rfl rfl dX7_joinTrees_20 ?_
  refine V_getR (g := (r + 2)) (k := 1) (g' := (r + 2)) (k' := 14) hC 3 6 fl_X7_84 (okR hr_r rfl) rfl rfl rfl dX7_joinTrees_23 ?_
  refine V_iload_n hC 2 dX7_joinTrees_26 rfl ?_
  obtain ⟨hi, h⟩ := gd_some h
  refine V_iald (g := (r + 2)) (k := 14) hC (okR hr_r rfl) rfl hi dX7_joinTrees_27 ?_
  obtain ⟨hi, h⟩ := gd_some h
  refine V_iald (g := (r + 2)) (k := 23) hC (okR hr_r rfl) rfl hi dX7_joinTrees_28 ?_
  refine V_vlI h (fun v2 h => ?_)
  refine V_istore_n (lv' := [(3, .int v2), (2, .int v1), (0, .ref (ad (r + 2) 2)), (1, .int a1)]) hC dX7_joinTrees_29 (Nat.le_of_ble_eq_true rfl) rfl ?_
  refine V_iload_n hC 1 dX7_joinTrees_30 rfl ?_
  refine V_iload_n hC 0 dX7_joinTrees_31 rfl ?_
  refine V_icmp_ne (tgt := 36) hC dX7_joinTrees_32 (by decide) (fun c3 => ?_) (fun c3 => ?_)
  · have h := it_neg c3 h
    refine V_aload_n hC 2 dX7_joinTrees_36 rfl ?_
    refine V_getR (g := (r + 2)) (k := 2) (g' := (r + 2)) (k' := 20) hC 7 3 fl_X7_18 (okR hr_r rfl) rfl rfl rfl dX7_joinTrees_37 ?_
    refine V_aload_n hC 2 dX7_joinTrees_40 rfl ?_
    refine V_getR (g := (r + 2)) (k := 2) (g' := (r + 2)) (k' := 1) hC 7 0 fl_X7_37 (okR hr_r rfl) rfl rfl rfl dX7_joinTrees_41 ?_
    refine V_getR (g := (r + 2)) (k := 1) (g' := (r + 2)) (k' := 13) hC 3 5 fl_X7_96 (okR hr_r rfl) rfl rfl rfl dX7_joinTrees_44 ?_
    refine V_iload_n hC 3 dX7_joinTrees_47 rfl ?_
    obtain ⟨hi, h⟩ := gd_some h
    refine V_iald (g := (r + 2)) (k := 13) hC (okR hr_r rfl) rfl hi dX7_joinTrees_48 ?_
    obtain ⟨hi, h⟩ := gd_some h
    refine V_lald (g := (r + 2)) (k := 20) hC (okR hr_r rfl) rfl hi dX7_joinTrees_49 ?_
    refine V_aload_n hC 2 dX7_joinTrees_50 rfl ?_
    refine V_getR (g := (r + 2)) (k := 2) (g' := (r + 2)) (k' := 21) hC 7 4 fl_X7_21 (okR hr_r rfl) rfl rfl rfl dX7_joinTrees_51 ?_
    refine V_iload_n hC 3 dX7_joinTrees_54 rfl ?_
    obtain ⟨hi, h⟩ := gd_some h
    refine V_lald (g := (r + 2)) (k := 21) hC (okR hr_r rfl) rfl hi dX7_joinTrees_55 ?_
    refine V_ladd hC dX7_joinTrees_56 ?_
    refine V_aload_n hC 2 dX7_joinTrees_57 rfl ?_
    refine V_getR (g := (r + 2)) (k := 2) (g' := (r + 2)) (k' := 20) hC 7 3 fl_X7_18 (okR hr_r rfl) rfl rfl rfl dX7_joinTrees_58 ?_
    refine V_aload_n hC 2 dX7_joinTrees_61 rfl ?_
    refine V_getR (g := (r + 2)) (k := 2) (g' := (r + 2)) (k' := 1) hC 7 0 fl_X7_37 (okR hr_r rfl) rfl rfl rfl dX7_joinTrees_62 ?_
    refine V_getR (g := (r + 2)) (k := 1) (g' := (r + 2)) (k' := 14) hC 3 6 fl_X7_84 (okR hr_r rfl) rfl rfl rfl dX7_joinTrees_65 ?_
    refine V_iload_n hC 3 dX7_joinTrees_68 rfl ?_
    obtain ⟨hi, h⟩ := gd_some h
    refine V_iald (g := (r + 2)) (k := 14) hC (okR hr_r rfl) rfl hi dX7_joinTrees_69 ?_
    obtain ⟨hi, h⟩ := gd_some h
    refine V_lald (g := (r + 2)) (k := 20) hC (okR hr_r rfl) rfl hi dX7_joinTrees_70 ?_
    refine V_lsub hC dX7_joinTrees_71 ?_
    refine V_vlJ h (fun v4 h => ?_)
    refine V_lstore (lv' := [(4, .long v4), (3, .int v2), (2, .int v1), (0, .ref (ad (r + 2) 2)), (1, .int a1)]) hC dX7_joinTrees_72 (Nat.le_of_ble_eq_true rfl) rfl ?_
    refine V_iconst (v := 0) hC dX7_joinTrees_74 (by decide) ?_
    refine V_istore (lv' := [(6, .int 0), (4, .long v4), (3, .int v2), (2, .int v1), (0, .ref (ad (r + 2) 2)), (1, .int a1)]) hC dX7_joinTrees_75 (Nat.le_of_ble_eq_true rfl) rfl ?_
    refine V_lv (lv' := [(0, .ref (ad (r + 2) 2)), (2, .int v1), (3, .int v2), (4, .long v4), (6, .int 0)]) [4, 3, 2, 1, 0] rfl ?_
    refine sL_X7_joinTrees_77 hC hret hr_r (fun H14 h => ?_) _ 0 H h
    exact V_vret hC hret dX7_joinTrees_156 h
  · have h := it_pos c3 h
    exact V_vret hC hret dX7_joinTrees_35 h
theorem c_X7_joinTrees (l : Launch) {nr : Nat} {r : Nat} (hr_r : r < nr) {a1 : Int32} {H : Hp} {x : Unit} {H' : Hp} (h : f_X7_joinTrees r a1 H = some (x, H')) : CU l nr yX7_joinTrees cX7_joinTrees 7 none 1 21 (fun ad => [.ref (ad (r + 2) 2), .int a1]) H x H' := by
  intro D K4 ad sz
  refine Met.ofV (by decide) (Nat.le_of_ble_eq_true rfl) ?_
  intro p e s m args below meth c hC hret hsz
  subst hsz
  exact s_X7_joinTrees hC hret hr_r h
theorem dX7_lighten_0 : decode cX7_lighten 0 = .ok (.iconst 0, 1) := by decide +kernel
theorem dX7_lighten_1 : decode cX7_lighten 1 = .ok (.istore_n 2, 1) := by decide +kernel
theorem dX7_lighten_2 : decode cX7_lighten 2 = .ok (.iload_n 2, 1) := by decide +kernel
theorem dX7_lighten_3 : decode cX7_lighten 3 = .ok (.aload_n 0, 1) := by decide +kernel
theorem dX7_lighten_4 : decode cX7_lighten 4 = .ok (.getfield 37, 3) := by decide +kernel
theorem dX7_lighten_7 : decode cX7_lighten 7 = .ok (.getfield 57, 3) := by decide +kernel
theorem dX7_lighten_10 : decode cX7_lighten 10 = .ok (.if_icmp .ge 23, 3) := by decide +kernel
theorem dX7_lighten_13 : decode cX7_lighten 13 = .ok (.aload_n 0, 1) := by decide +kernel
theorem dX7_lighten_14 : decode cX7_lighten 14 = .ok (.getfield 27, 3) := by decide +kernel
theorem dX7_lighten_17 : decode cX7_lighten 17 = .ok (.iload_n 2, 1) := by decide +kernel
theorem dX7_lighten_18 : decode cX7_lighten 18 = .ok (.iload_n 2, 1) := by decide +kernel
theorem dX7_lighten_19 : decode cX7_lighten 19 = .ok (.iastore, 1) := by decide +kernel
theorem dX7_lighten_20 : decode cX7_lighten 20 = .ok (.aload_n 0, 1) := by decide +kernel
theorem dX7_lighten_21 : decode cX7_lighten 21 = .ok (.getfield 18, 3) := by decide +kernel
theorem dX7_lighten_24 : decode cX7_lighten 24 = .ok (.iload_n 2, 1) := by decide +kernel
theorem dX7_lighten_25 : decode cX7_lighten 25 = .ok (.lconst 0, 1) := by decide +kernel
theorem dX7_lighten_26 : decode cX7_lighten 26 = .ok (.lastore, 1) := by decide +kernel
theorem dX7_lighten_27 : decode cX7_lighten 27 = .ok (.iinc 2 1, 3) := by decide +kernel
theorem dX7_lighten_30 : decode cX7_lighten 30 = .ok (.goto (-28), 3) := by decide +kernel
theorem dX7_lighten_33 : decode cX7_lighten 33 = .ok (.iconst 0, 1) := by decide +kernel
theorem dX7_lighten_34 : decode cX7_lighten 34 = .ok (.istore_n 2, 1) := by decide +kernel
theorem dX7_lighten_35 : decode cX7_lighten 35 = .ok (.iload_n 2, 1) := by decide +kernel
theorem dX7_lighten_36 : decode cX7_lighten 36 = .ok (.aload_n 0, 1) := by decide +kernel
theorem dX7_lighten_37 : decode cX7_lighten 37 = .ok (.getfield 37, 3) := by decide +kernel
theorem dX7_lighten_40 : decode cX7_lighten 40 = .ok (.getfield 89, 3) := by decide +kernel
theorem dX7_lighten_43 : decode cX7_lighten 43 = .ok (.if_icmp .ge 30, 3) := by decide +kernel
theorem dX7_lighten_46 : decode cX7_lighten 46 = .ok (.aload_n 0, 1) := by decide +kernel
theorem dX7_lighten_47 : decode cX7_lighten 47 = .ok (.getfield 37, 3) := by decide +kernel
theorem dX7_lighten_50 : decode cX7_lighten 50 = .ok (.getfield 80, 3) := by decide +kernel
theorem dX7_lighten_53 : decode cX7_lighten 53 = .ok (.aload_n 1, 1) := by decide +kernel
theorem dX7_lighten_54 : decode cX7_lighten 54 = .ok (.iload_n 2, 1) := by decide +kernel
theorem dX7_lighten_55 : decode cX7_lighten 55 = .ok (.iaload, 1) := by decide +kernel
theorem dX7_lighten_56 : decode cX7_lighten 56 = .ok (.baload, 1) := by decide +kernel
theorem dX7_lighten_57 : decode cX7_lighten 57 = .ok (.ifCond .ne 10, 3) := by decide +kernel
theorem dX7_lighten_60 : decode cX7_lighten 60 = .ok (.aload_n 0, 1) := by decide +kernel
theorem dX7_lighten_61 : decode cX7_lighten 61 = .ok (.aload_n 1, 1) := by decide +kernel
theorem dX7_lighten_62 : decode cX7_lighten 62 = .ok (.iload_n 2, 1) := by decide +kernel
theorem dX7_lighten_63 : decode cX7_lighten 63 = .ok (.iaload, 1) := by decide +kernel
theorem dX7_lighten_64 : decode cX7_lighten 64 = .ok (.invokevirtual 92, 3) := by decide +kernel
theorem dX7_lighten_67 : decode cX7_lighten 67 = .ok (.iinc 2 1, 3) := by decide +kernel
theorem dX7_lighten_70 : decode cX7_lighten 70 = .ok (.goto (-35), 3) := by decide +kernel
theorem dX7_lighten_73 : decode cX7_lighten 73 = .ok (.aload_n 0, 1) := by decide +kernel
theorem dX7_lighten_74 : decode cX7_lighten 74 = .ok (.getfield 37, 3) := by decide +kernel
theorem dX7_lighten_77 : decode cX7_lighten 77 = .ok (.getfield 57, 3) := by decide +kernel
theorem dX7_lighten_80 : decode cX7_lighten 80 = .ok (.iconst 1, 1) := by decide +kernel
theorem dX7_lighten_81 : decode cX7_lighten 81 = .ok (.isub, 1) := by decide +kernel
theorem dX7_lighten_82 : decode cX7_lighten 82 = .ok (.istore_n 2, 1) := by decide +kernel
theorem dX7_lighten_83 : decode cX7_lighten 83 = .ok (.iload_n 2, 1) := by decide +kernel
theorem dX7_lighten_84 : decode cX7_lighten 84 = .ok (.ifCond .lt 29, 3) := by decide +kernel
theorem dX7_lighten_87 : decode cX7_lighten 87 = .ok (.aload_n 0, 1) := by decide +kernel
theorem dX7_lighten_88 : decode cX7_lighten 88 = .ok (.getfield 18, 3) := by decide +kernel
theorem dX7_lighten_91 : decode cX7_lighten 91 = .ok (.iload_n 2, 1) := by decide +kernel
theorem dX7_lighten_92 : decode cX7_lighten 92 = .ok (.dup2, 1) := by decide +kernel
theorem dX7_lighten_93 : decode cX7_lighten 93 = .ok (.laload, 1) := by decide +kernel
theorem dX7_lighten_94 : decode cX7_lighten 94 = .ok (.aload_n 0, 1) := by decide +kernel
theorem dX7_lighten_95 : decode cX7_lighten 95 = .ok (.getfield 18, 3) := by decide +kernel
theorem dX7_lighten_98 : decode cX7_lighten 98 = .ok (.aload_n 0, 1) := by decide +kernel
theorem dX7_lighten_99 : decode cX7_lighten 99 = .ok (.getfield 27, 3) := by decide +kernel
theorem dX7_lighten_102 : decode cX7_lighten 102 = .ok (.iload_n 2, 1) := by decide +kernel
theorem dX7_lighten_103 : decode cX7_lighten 103 = .ok (.iaload, 1) := by decide +kernel
theorem dX7_lighten_104 : decode cX7_lighten 104 = .ok (.laload, 1) := by decide +kernel
theorem dX7_lighten_105 : decode cX7_lighten 105 = .ok (.lsub, 1) := by decide +kernel
theorem dX7_lighten_106 : decode cX7_lighten 106 = .ok (.lastore, 1) := by decide +kernel
theorem dX7_lighten_107 : decode cX7_lighten 107 = .ok (.iinc 2 (-1), 3) := by decide +kernel
theorem dX7_lighten_110 : decode cX7_lighten 110 = .ok (.goto (-27), 3) := by decide +kernel
theorem dX7_lighten_113 : decode cX7_lighten 113 = .ok (.iconst 0, 1) := by decide +kernel
theorem dX7_lighten_114 : decode cX7_lighten 114 = .ok (.istore_n 2, 1) := by decide +kernel
theorem dX7_lighten_115 : decode cX7_lighten 115 = .ok (.iload_n 2, 1) := by decide +kernel
theorem dX7_lighten_116 : decode cX7_lighten 116 = .ok (.aload_n 0, 1) := by decide +kernel
theorem dX7_lighten_117 : decode cX7_lighten 117 = .ok (.getfield 37, 3) := by decide +kernel
theorem dX7_lighten_120 : decode cX7_lighten 120 = .ok (.getfield 89, 3) := by decide +kernel
theorem dX7_lighten_123 : decode cX7_lighten 123 = .ok (.if_icmp .ge 67, 3) := by decide +kernel
theorem dX7_lighten_126 : decode cX7_lighten 126 = .ok (.aload_n 0, 1) := by decide +kernel
theorem dX7_lighten_127 : decode cX7_lighten 127 = .ok (.getfield 24, 3) := by decide +kernel
theorem dX7_lighten_130 : decode cX7_lighten 130 = .ok (.iload_n 2, 1) := by decide +kernel
theorem dX7_lighten_131 : decode cX7_lighten 131 = .ok (.aload_n 0, 1) := by decide +kernel
theorem dX7_lighten_132 : decode cX7_lighten 132 = .ok (.getfield 37, 3) := by decide +kernel
theorem dX7_lighten_135 : decode cX7_lighten 135 = .ok (.getfield 80, 3) := by decide +kernel
theorem dX7_lighten_138 : decode cX7_lighten 138 = .ok (.iload_n 2, 1) := by decide +kernel
theorem dX7_lighten_139 : decode cX7_lighten 139 = .ok (.baload, 1) := by decide +kernel
theorem dX7_lighten_140 : decode cX7_lighten 140 = .ok (.ifCond .eq 7, 3) := by decide +kernel
theorem dX7_lighten_143 : decode cX7_lighten 143 = .ok (.lconst 0, 1) := by decide +kernel
theorem dX7_lighten_144 : decode cX7_lighten 144 = .ok (.goto 39, 3) := by decide +kernel
theorem dX7_lighten_147 : decode cX7_lighten 147 = .ok (.aload_n 0, 1) := by decide +kernel
theorem dX7_lighten_148 : decode cX7_lighten 148 = .ok (.getfield 21, 3) := by decide +kernel
theorem dX7_lighten_151 : decode cX7_lighten 151 = .ok (.iload_n 2, 1) := by decide +kernel
theorem dX7_lighten_152 : decode cX7_lighten 152 = .ok (.laload, 1) := by decide +kernel
theorem dX7_lighten_153 : decode cX7_lighten 153 = .ok (.aload_n 0, 1) := by decide +kernel
theorem dX7_lighten_154 : decode cX7_lighten 154 = .ok (.getfield 18, 3) := by decide +kernel
theorem dX7_lighten_157 : decode cX7_lighten 157 = .ok (.aload_n 0, 1) := by decide +kernel
theorem dX7_lighten_158 : decode cX7_lighten 158 = .ok (.getfield 37, 3) := by decide +kernel
theorem dX7_lighten_161 : decode cX7_lighten 161 = .ok (.getfield 96, 3) := by decide +kernel
theorem dX7_lighten_164 : decode cX7_lighten 164 = .ok (.iload_n 2, 1) := by decide +kernel
theorem dX7_lighten_165 : decode cX7_lighten 165 = .ok (.iaload, 1) := by decide +kernel
theorem dX7_lighten_166 : decode cX7_lighten 166 = .ok (.laload, 1) := by decide +kernel
theorem dX7_lighten_167 : decode cX7_lighten 167 = .ok (.ladd, 1) := by decide +kernel
theorem dX7_lighten_168 : decode cX7_lighten 168 = .ok (.aload_n 0, 1) := by decide +kernel
theorem dX7_lighten_169 : decode cX7_lighten 169 = .ok (.getfield 18, 3) := by decide +kernel
theorem dX7_lighten_172 : decode cX7_lighten 172 = .ok (.aload_n 0, 1) := by decide +kernel
theorem dX7_lighten_173 : decode cX7_lighten 173 = .ok (.getfield 37, 3) := by decide +kernel
theorem dX7_lighten_176 : decode cX7_lighten 176 = .ok (.getfield 84, 3) := by decide +kernel
theorem dX7_lighten_179 : decode cX7_lighten 179 = .ok (.iload_n 2, 1) := by decide +kernel
theorem dX7_lighten_180 : decode cX7_lighten 180 = .ok (.iaload, 1) := by decide +kernel
theorem dX7_lighten_181 : decode cX7_lighten 181 = .ok (.laload, 1) := by decide +kernel
theorem dX7_lighten_182 : decode cX7_lighten 182 = .ok (.lsub, 1) := by decide +kernel
theorem dX7_lighten_183 : decode cX7_lighten 183 = .ok (.lastore, 1) := by decide +kernel
theorem dX7_lighten_184 : decode cX7_lighten 184 = .ok (.iinc 2 1, 3) := by decide +kernel
theorem dX7_lighten_187 : decode cX7_lighten 187 = .ok (.goto (-72), 3) := by decide +kernel
theorem dX7_lighten_190 : decode cX7_lighten 190 = .ok (.return_, 1) := by decide +kernel
def L_X7_lighten_2 (r : Nat) (k : Hp → Option (Unit × Hp)) : Nat → Int32 → Hp → Option (Unit × Hp)
  | 0, _, _ => none
  | n + 1, x2, H => if (gI H (r + 2) 1 10) ≤ x2 then k H else gd x2 20 (hl (sI H (r + 2) 23 (Int32.toNatClampNeg x2) x2) (fun (H2 : Hp) => gd x2 20 (hl (sJ H2 (r + 2) 20 (Int32.toNatClampNeg x2) 0) (fun (H3 : Hp) => vl (x2 + (1 : Int32)) (fun (v4 : Int32) => L_X7_lighten_2 r k n v4 H3)))))
set_option maxRecDepth 100000 in
set_option maxHeartbeats 4000000 in
theorem sL_X7_lighten_2 {p : Program} {l : Launch} {e : Env} {s : State} {m : MethodId} {args : Array Value} {below : List Frame} {meth : Method} {c : Code} {A : Nat → Prop} {D : va_G} {K4 : kQ} {ad : Nat → Nat → Nat} {nr : Nat} {r : Nat} {k : Hp → Option (Unit × Hp)} {res : Unit × Hp} (hC : Cx p s m args c A s.heap D K4 3 RX7 cX7_lighten) (hret : meth.sig.returnType = none ∧ meth.locks = false) (hr_r : r < nr) (hk : ∀ (H : Hp), k H = some res → V p l e ({ frames := 2, cells := 0, slots := 0, locals := 47 }) s m args below meth c A s.heap (QU below args s A D K4 ad nr res) D K4 ad nr 3 33 [(0, .ref (ad (r + 2) 2)), (1, .ref (ad (r + 2) 26))] [] H) : ∀ (n : Nat) (x2 : Int32) (H : Hp), L_X7_lighten_2 r k n x2 H = some res → V p l e ({ frames := 2, cells := 0, slots := 0, locals := 47 }) s m args below meth c A s.heap (QU below args s A D K4 ad nr res) D K4 ad nr 3 2 [(0, .ref (ad (r + 2) 2)), (1, .ref (ad (r + 2) 26)), (2, .int x2)] [] H := by
  intro n
  induction n with
  | zero => intro x2 H h; exact nomatch (show (none : Option (Unit × Hp)) = some res from h)
  | succ n ih =>
    intro x2 H h
    rw [L_X7_lighten_2] at h
    refine V_iload_n hC 2 dX7_lighten_2 rfl ?_
    refine V_aload_n hC 0 dX7_lighten_3 rfl ?_
    refine V_getR (g := (r + 2)) (k := 2) (g' := (r + 2)) (k' := 1) hC 7 0 fl_X7_37 (okR hr_r rfl) rfl rfl rfl dX7_lighten_4 ?_
    refine V_getI (g := (r + 2)) (k := 1) hC 3 10 fl_X7_57 (okR hr_r rfl) rfl rfl dX7_lighten_7 ?_
    refine V_icmp_ge (tgt := 33) hC dX7_lighten_10 (by decide) (fun c1 => ?_) (fun c1 => ?_)
    · have h := it_pos c1 h
      refine V_lv (lv' := [(0, .ref (ad (r + 2) 2)), (1, .ref (ad (r + 2) 26))]) [0, 1] rfl ?_
      exact hk H h
    · have h := it_neg c1 h
      refine V_aload_n hC 0 dX7_lighten_13 rfl ?_
      refine V_getR (g := (r + 2)) (k := 2) (g' := (r + 2)) (k' := 23) hC 7 6 fl_X7_27 (okR hr_r rfl) rfl rfl rfl dX7_lighten_14 ?_
      refine V_iload_n hC 2 dX7_lighten_17 rfl ?_
      refine V_iload_n hC 2 dX7_lighten_18 rfl ?_
      obtain ⟨hi, h⟩ := gd_some h
      refine V_iast (g := (r + 2)) (k := 23) hC (okR hr_r rfl) rfl hi dX7_lighten_19 ?_
      refine V_hl h (fun H2 h => ?_)
      refine V_aload_n hC 0 dX7_lighten_20 rfl ?_
      refine V_getR (g := (r + 2)) (k := 2) (g' := (r + 2)) (k' := 20) hC 7 3 fl_X7_18 (okR hr_r rfl) rfl rfl rfl dX7_lighten_21 ?_
      refine V_iload_n hC 2 dX7_lighten_24 rfl ?_
      refine V_lconst (v := 0) hC dX7_lighten_25 (by decide) ?_
      obtain ⟨hi, h⟩ := gd_some h
      refine V_last (g := (r + 2)) (k := 20) hC (okR hr_r rfl) rfl hi dX7_lighten_26 ?_
      refine V_hl h (fun H3 h => ?_)
      refine V_vi h (fun v4 hvv4 h => ?_)
      refine V_iinc (v := v4) (lv' := [(2, .int v4), (0, .ref (ad (r + 2) 2)), (1, .ref (ad (r + 2) 26))]) hC 2 dX7_lighten_27 rfl hvv4.symm (Nat.le_of_ble_eq_true rfl) rfl ?_
      refine V_goto (tgt := 2) hC dX7_lighten_30 (by decide) ?_
      refine V_lv (lv' := [(0, .ref (ad (r + 2) 2)), (1, .ref (ad (r + 2) 26)), (2, .int v4)]) [1, 2, 0] rfl ?_
      exact ih v4 H3 h
def L_X7_lighten_35 (r : Nat) (k : Hp → Option (Unit × Hp)) : Nat → Int32 → Hp → Option (Unit × Hp)
  | 0, _, _ => none
  | n + 1, x2, H => if (gI H (r + 2) 1 11) ≤ x2 then k H else gd x2 40 (gd (gI H (r + 2) 26 (Int32.toNatClampNeg x2)) 40 (if (gI H (r + 2) 16 (Int32.toNatClampNeg (gI H (r + 2) 26 (Int32.toNatClampNeg x2)))) = 0 then gd x2 40 (bnd (f_X7_joinTrees r (gI H (r + 2) 26 (Int32.toNatClampNeg x2)) H) (fun w10 H9 => vl (x2 + (1 : Int32)) (fun (v11 : Int32) => L_X7_lighten_35 r k n v11 H9))) else vl (x2 + (1 : Int32)) (fun (v8 : Int32) => L_X7_lighten_35 r k n v8 H)))
set_option maxRecDepth 100000 in
set_option maxHeartbeats 4000000 in
theorem sL_X7_lighten_35 {p : Program} {l : Launch} {e : Env} {s : State} {m : MethodId} {args : Array Value} {below : List Frame} {meth : Method} {c : Code} {A : Nat → Prop} {D : va_G} {K4 : kQ} {ad : Nat → Nat → Nat} {nr : Nat} {r : Nat} {k : Hp → Option (Unit × Hp)} {res : Unit × Hp} (hC : Cx p s m args c A s.heap D K4 3 RX7 cX7_lighten) (hret : meth.sig.returnType = none ∧ meth.locks = false) (hr_r : r < nr) (hk : ∀ (H : Hp), k H = some res → V p l e ({ frames := 2, cells := 0, slots := 0, locals := 47 }) s m args below meth c A s.heap (QU below args s A D K4 ad nr res) D K4 ad nr 3 73 [(0, .ref (ad (r + 2) 2))] [] H) : ∀ (n : Nat) (x2 : Int32) (H : Hp), L_X7_lighten_35 r k n x2 H = some res → V p l e ({ frames := 2, cells := 0, slots := 0, locals := 47 }) s m args below meth c A s.heap (QU below args s A D K4 ad nr res) D K4 ad nr 3 35 [(0, .ref (ad (r + 2) 2)), (1, .ref (ad (r + 2) 26)), (2, .int x2)] [] H := by
  intro n
  induction n with
  | zero => intro x2 H h; exact nomatch (show (none : Option (Unit × Hp)) = some res from h)
  | succ n ih =>
    intro x2 H h
    rw [L_X7_lighten_35] at h
    refine V_iload_n hC 2 dX7_lighten_35 rfl ?_
    refine V_aload_n hC 0 dX7_lighten_36 rfl ?_
    refine V_getR (g := (r + 2)) (k := 2) (g' := (r + 2)) (k' := 1) hC 7 0 fl_X7_37 (okR hr_r rfl) rfl rfl rfl dX7_lighten_37 ?_
    refine V_getI (g := (r + 2)) (k := 1) hC 3 11 fl_X7_89 (okR hr_r rfl) rfl rfl dX7_lighten_40 ?_
    refine V_icmp_ge (tgt := 73) hC dX7_lighten_43 (by decide) (fun c6 => ?_) (fun c6 => ?_)
    · have h := it_pos c6 h
      refine V_lv (lv' := [(0, .ref (ad (r + 2) 2))]) [0] rfl ?_
      exact hk H h
    · have h := it_neg c6 h
      refine V_aload_n hC 0 dX7_lighten_46 rfl ?_
      refine V_getR (g := (r + 2)) (k := 2) (g' := (r + 2)) (k' := 1) hC 7 0 fl_X7_37 (okR hr_r rfl) rfl rfl rfl dX7_lighten_47 ?_
      refine V_getR (g := (r + 2)) (k := 1) (g' := (r + 2)) (k' := 16) hC 3 8 fl_X7_80 (okR hr_r rfl) rfl rfl rfl dX7_lighten_50 ?_
      refine V_aload_n hC 1 dX7_lighten_53 rfl ?_
      refine V_iload_n hC 2 dX7_lighten_54 rfl ?_
      obtain ⟨hi, h⟩ := gd_some h
      refine V_iald (g := (r + 2)) (k := 26) hC (okR hr_r rfl) rfl hi dX7_lighten_55 ?_
      obtain ⟨hi, h⟩ := gd_some h
      refine V_zald (g := (r + 2)) (k := 16) hC (okR hr_r rfl) rfl hi dX7_lighten_56 ?_
      refine V_if_ne (tgt := 67) hC dX7_lighten_57 (by decide) (fun c7 => ?_) (fun c7 => ?_)
      · have h := it_neg c7 h
        refine V_vi h (fun v8 hvv8 h => ?_)
        refine V_iinc (v := v8) (lv' := [(2, .int v8), (0, .ref (ad (r + 2) 2)), (1, .ref (ad (r + 2) 26))]) hC 2 dX7_lighten_67 rfl hvv8.symm (Nat.le_of_ble_eq_true rfl) rfl ?_
        refine V_goto (tgt := 35) hC dX7_lighten_70 (by decide) ?_
        refine V_lv (lv' := [(0, .ref (ad (r + 2) 2)), (1, .ref (ad (r + 2) 26)), (2, .int v8)]) [1, 2, 0] rfl ?_
        exact ih v8 H h
      · have h := it_pos c7 h
        refine V_aload_n hC 0 dX7_lighten_60 rfl ?_
        refine V_aload_n hC 1 dX7_lighten_61 rfl ?_
        refine V_iload_n hC 2 dX7_lighten_62 rfl ?_
        obtain ⟨hi, h⟩ := gd_some h
        refine V_iald (g := (r + 2)) (k := 26) hC (okR hr_r rfl) rfl hi dX7_lighten_63 ?_
        obtain ⟨w10, H9, hc, h⟩ := bnd_some h
        refine V_callu (g := (r + 2)) (k := 2) (As := [.int (gI H (r + 2) 26 (Int32.toNatClampNeg x2))]) (st := []) hC (c_X7_joinTrees l (hr_r := hr_r) hc) rfl ml_X7_92 ⟨Nat.le_of_ble_eq_true rfl, Nat.le_of_ble_eq_true rfl⟩ (okR hr_r rfl) rfl rfl (Nat.le_of_ble_eq_true rfl) dX7_lighten_64 ?_
        refine V_vi h (fun v11 hvv11 h => ?_)
        refine V_iinc (v := v11) (lv' := [(2, .int v11), (0, .ref (ad (r + 2) 2)), (1, .ref (ad (r + 2) 26))]) hC 2 dX7_lighten_67 rfl hvv11.symm (Nat.le_of_ble_eq_true rfl) rfl ?_
        refine V_goto (tgt := 35) hC dX7_lighten_70 (by decide) ?_
        refine V_lv (lv' := [(0, .ref (ad (r + 2) 2)), (1, .ref (ad (r + 2) 26)), (2, .int v11)]) [1, 2, 0] rfl ?_
        exact ih v11 H9 h
def L_X7_lighten_83 (r : Nat) (k : Hp → Option (Unit × Hp)) : Nat → Int32 → Hp → Option (Unit × Hp)
  | 0, _, _ => none
  | n + 1, x2, H => if x2 < 0 then k H else gd x2 20 (gd x2 20 (gd (gI H (r + 2) 23 (Int32.toNatClampNeg x2)) 20 (gd x2 20 (hl (sJ H (r + 2) 20 (Int32.toNatClampNeg x2) ((gJ H (r + 2) 20 (Int32.toNatClampNeg x2)) - (gJ H (r + 2) 20 (Int32.toNatClampNeg (gI H (r + 2) 23 (Int32.toNatClampNeg x2)))))) (fun (H15 : Hp) => vl (x2 + (-1 : Int32)) (fun (v16 : Int32) => L_X7_lighten_83 r k n v16 H15))))))
set_option maxRecDepth 100000 in
set_option maxHeartbeats 4000000 in
theorem sL_X7_lighten_83 {p : Program} {l : Launch} {e : Env} {s : State} {m : MethodId} {args : Array Value} {below : List Frame} {meth : Method} {c : Code} {A : Nat → Prop} {D : va_G} {K4 : kQ} {ad : Nat → Nat → Nat} {nr : Nat} {r : Nat} {k : Hp → Option (Unit × Hp)} {res : Unit × Hp} (hC : Cx p s m args c A s.heap D K4 3 RX7 cX7_lighten) (hret : meth.sig.returnType = none ∧ meth.locks = false) (hr_r : r < nr) (hk : ∀ (H : Hp), k H = some res → V p l e ({ frames := 2, cells := 0, slots := 0, locals := 47 }) s m args below meth c A s.heap (QU below args s A D K4 ad nr res) D K4 ad nr 3 113 [(0, .ref (ad (r + 2) 2))] [] H) : ∀ (n : Nat) (x2 : Int32) (H : Hp), L_X7_lighten_83 r k n x2 H = some res → V p l e ({ frames := 2, cells := 0, slots := 0, locals := 47 }) s m args below meth c A s.heap (QU below args s A D K4 ad nr res) D K4 ad nr 3 83 [(0, .ref (ad (r + 2) 2)), (2, .int x2)] [] H := by
  intro n
  induction n with
  | zero => intro x2 H h; exact nomatch (show (none : Option (Unit × Hp)) = some res from h)
  | succ n ih =>
    intro x2 H h
    rw [L_X7_lighten_83] at h
    refine V_iload_n hC 1 dX7_lighten_83 rfl ?_
    refine V_if_lt (tgt := 113) hC dX7_lighten_84 (by decide) (fun c14 => ?_) (fun c14 => ?_)
    · have h := it_pos c14 h
      refine V_lv (lv' := [(0, .ref (ad (r + 2) 2))]) [0] rfl ?_
      exact hk H h
    · have h := it_neg c14 h
      refine V_aload_n hC 0 dX7_lighten_87 rfl ?_
      refine V_getR (g := (r + 2)) (k := 2) (g' := (r + 2)) (k' := 20) hC 7 3 fl_X7_18 (okR hr_r rfl) rfl rfl rfl dX7_lighten_88 ?_
      refine V_iload_n hC 1 dX7_lighten_91 rfl ?_
      refine V_dup2 hC dX7_lighten_92 rfl rfl ?_
      obtain ⟨hi, h⟩ := gd_some h
      refine V_lald (g := (r + 2)) (k := 20) hC (okR hr_r rfl) rfl hi dX7_lighten_93 ?_
      refine V_aload_n hC 0 dX7_lighten_94 rfl ?_
      refine V_getR (g := (r + 2)) (k := 2) (g' := (r + 2)) (k' := 20) hC 7 3 fl_X7_18 (okR hr_r rfl) rfl rfl rfl dX7_lighten_95 ?_
      refine V_aload_n hC 0 dX7_lighten_98 rfl ?_
      refine V_getR (g := (r + 2)) (k := 2) (g' := (r + 2)) (k' := 23) hC 7 6 fl_X7_27 (okR hr_r rfl) rfl rfl rfl dX7_lighten_99 ?_
      refine V_iload_n hC 1 dX7_lighten_102 rfl ?_
      obtain ⟨hi, h⟩ := gd_some h
      refine V_iald (g := (r + 2)) (k := 23) hC (okR hr_r rfl) rfl hi dX7_lighten_103 ?_
      obtain ⟨hi, h⟩ := gd_some h
      refine V_lald (g := (r + 2)) (k := 20) hC (okR hr_r rfl) rfl hi dX7_lighten_104 ?_
      refine V_lsub hC dX7_lighten_105 ?_
      obtain ⟨hi, h⟩ := gd_some h
      refine V_last (g := (r + 2)) (k := 20) hC (okR hr_r rfl) rfl hi dX7_lighten_106 ?_
      refine V_hl h (fun H15 h => ?_)
      refine V_vi h (fun v16 hvv16 h => ?_)
      refine V_iinc (v := v16) (lv' := [(2, .int v16), (0, .ref (ad (r + 2) 2))]) hC 1 dX7_lighten_107 rfl hvv16.symm (Nat.le_of_ble_eq_true rfl) rfl ?_
      refine V_goto (tgt := 83) hC dX7_lighten_110 (by decide) ?_
      refine V_lv (lv' := [(0, .ref (ad (r + 2) 2)), (2, .int v16)]) [1, 0] rfl ?_
      exact ih v16 H15 h
def L_X7_lighten_115 (r : Nat) (k : Hp → Option (Unit × Hp)) : Nat → Int32 → Hp → Option (Unit × Hp)
  | 0, _, _ => none
  | n + 1, x2, H => if (gI H (r + 2) 1 11) ≤ x2 then k H else gd x2 40 (if (gI H (r + 2) 16 (Int32.toNatClampNeg x2)) = 0 then gd x2 40 (gd x2 61 (gd (gI H (r + 2) 13 (Int32.toNatClampNeg x2)) 20 (gd x2 61 (gd (gI H (r + 2) 14 (Int32.toNatClampNeg x2)) 20 (gd x2 40 (hl (sJ H (r + 2) 22 (Int32.toNatClampNeg x2) (((gJ H (r + 2) 21 (Int32.toNatClampNeg x2)) + (gJ H (r + 2) 20 (Int32.toNatClampNeg (gI H (r + 2) 13 (Int32.toNatClampNeg x2))))) - (gJ H (r + 2) 20 (Int32.toNatClampNeg (gI H (r + 2) 14 (Int32.toNatClampNeg x2)))))) (fun (H20 : Hp) => vl (x2 + (1 : Int32)) (fun (v21 : Int32) => L_X7_lighten_115 r k n v21 H20)))))))) else gd x2 40 (hl (sJ H (r + 2) 22 (Int32.toNatClampNeg x2) 0) (fun (H22 : Hp) => vl (x2 + (1 : Int32)) (fun (v23 : Int32) => L_X7_lighten_115 r k n v23 H22))))
set_option maxRecDepth 100000 in
set_option maxHeartbeats 4000000 in
theorem sL_X7_lighten_115 {p : Program} {l : Launch} {e : Env} {s : State} {m : MethodId} {args : Array Value} {below : List Frame} {meth : Method} {c : Code} {A : Nat → Prop} {D : va_G} {K4 : kQ} {ad : Nat → Nat → Nat} {nr : Nat} {r : Nat} {k : Hp → Option (Unit × Hp)} {res : Unit × Hp} (hC : Cx p s m args c A s.heap D K4 3 RX7 cX7_lighten) (hret : meth.sig.returnType = none ∧ meth.locks = false) (hr_r : r < nr) (hk : ∀ (H : Hp), k H = some res → V p l e ({ frames := 2, cells := 0, slots := 0, locals := 47 }) s m args below meth c A s.heap (QU below args s A D K4 ad nr res) D K4 ad nr 3 190 [] [] H) : ∀ (n : Nat) (x2 : Int32) (H : Hp), L_X7_lighten_115 r k n x2 H = some res → V p l e ({ frames := 2, cells := 0, slots := 0, locals := 47 }) s m args below meth c A s.heap (QU below args s A D K4 ad nr res) D K4 ad nr 3 115 [(0, .ref (ad (r + 2) 2)), (2, .int x2)] [] H := by
  intro n
  induction n with
  | zero => intro x2 H h; exact nomatch (show (none : Option (Unit × Hp)) = some res from h)
  | succ n ih =>
    intro x2 H h
    rw [L_X7_lighten_115] at h
    refine V_iload_n hC 1 dX7_lighten_115 rfl ?_
    refine V_aload_n hC 0 dX7_lighten_116 rfl ?_
    refine V_getR (g := (r + 2)) (k := 2) (g' := (r + 2)) (k' := 1) hC 7 0 fl_X7_37 (okR hr_r rfl) rfl rfl rfl dX7_lighten_117 ?_
    refine V_getI (g := (r + 2)) (k := 1) hC 3 11 fl_X7_89 (okR hr_r rfl) rfl rfl dX7_lighten_120 ?_
    refine V_icmp_ge (tgt := 190) hC dX7_lighten_123 (by decide) (fun c18 => ?_) (fun c18 => ?_)
    · have h := it_pos c18 h
      refine V_lv (lv' := []) [] rfl ?_
      exact hk H h
    · have h := it_neg c18 h
      refine V_aload_n hC 0 dX7_lighten_126 rfl ?_
      refine V_getR (g := (r + 2)) (k := 2) (g' := (r + 2)) (k' := 22) hC 7 5 fl_X7_24 (okR hr_r rfl) rfl rfl rfl dX7_lighten_127 ?_
      refine V_iload_n hC 1 dX7_lighten_130 rfl ?_
      refine V_aload_n hC 0 dX7_lighten_131 rfl ?_
      refine V_getR (g := (r + 2)) (k := 2) (g' := (r + 2)) (k' := 1) hC 7 0 fl_X7_37 (okR hr_r rfl) rfl rfl rfl dX7_lighten_132 ?_
      refine V_getR (g := (r + 2)) (k := 1) (g' := (r + 2)) (k' := 16) hC 3 8 fl_X7_80 (okR hr_r rfl) rfl rfl rfl dX7_lighten_135 ?_
      refine V_iload_n hC 1 dX7_lighten_138 rfl ?_
      obtain ⟨hi, h⟩ := gd_some h
      refine V_zald (g := (r + 2)) (k := 16) hC (okR hr_r rfl) rfl hi dX7_lighten_139 ?_
      refine V_if_eq (tgt := 147) hC dX7_lighten_140 (by decide) (fun c19 => ?_) (fun c19 => ?_)
      · have h := it_pos c19 h
        refine V_aload_n hC 0 dX7_lighten_147 rfl ?_
        refine V_getR (g := (r + 2)) (k := 2) (g' := (r + 2)) (k' := 21) hC 7 4 fl_X7_21 (okR hr_r rfl) rfl rfl rfl dX7_lighten_148 ?_
        refine V_iload_n hC 1 dX7_lighten_151 rfl ?_
        obtain ⟨hi, h⟩ := gd_some h
        refine V_lald (g := (r + 2)) (k := 21) hC (okR hr_r rfl) rfl hi dX7_lighten_152 ?_
        refine V_aload_n hC 0 dX7_lighten_153 rfl ?_
        refine V_getR (g := (r + 2)) (k := 2) (g' := (r + 2)) (k' := 20) hC 7 3 fl_X7_18 (okR hr_r rfl) rfl rfl rfl dX7_lighten_154 ?_
        refine V_aload_n hC 0 dX7_lighten_157 rfl ?_
        refine V_getR (g := (r + 2)) (k := 2) (g' := (r + 2)) (k' := 1) hC 7 0 fl_X7_37 (okR hr_r rfl) rfl rfl rfl dX7_lighten_158 ?_
        refine V_getR (g := (r + 2)) (k := 1) (g' := (r + 2)) (k' := 13) hC 3 5 fl_X7_96 (okR hr_r rfl) rfl rfl rfl dX7_lighten_161 ?_
        refine V_iload_n hC 1 dX7_lighten_164 rfl ?_
        obtain ⟨hi, h⟩ := gd_some h
        refine V_iald (g := (r + 2)) (k := 13) hC (okR hr_r rfl) rfl hi dX7_lighten_165 ?_
        obtain ⟨hi, h⟩ := gd_some h
        refine V_lald (g := (r + 2)) (k := 20) hC (okR hr_r rfl) rfl hi dX7_lighten_166 ?_
        refine V_ladd hC dX7_lighten_167 ?_
        refine V_aload_n hC 0 dX7_lighten_168 rfl ?_
        refine V_getR (g := (r + 2)) (k := 2) (g' := (r + 2)) (k' := 20) hC 7 3 fl_X7_18 (okR hr_r rfl) rfl rfl rfl dX7_lighten_169 ?_
        refine V_aload_n hC 0 dX7_lighten_172 rfl ?_
        refine V_getR (g := (r + 2)) (k := 2) (g' := (r + 2)) (k' := 1) hC 7 0 fl_X7_37 (okR hr_r rfl) rfl rfl rfl dX7_lighten_173 ?_
        refine V_getR (g := (r + 2)) (k := 1) (g' := (r + 2)) (k' := 14) hC 3 6 fl_X7_84 (okR hr_r rfl) rfl rfl rfl dX7_lighten_176 ?_
        refine V_iload_n hC 1 dX7_lighten_179 rfl ?_
        obtain ⟨hi, h⟩ := gd_some h
        refine V_iald (g := (r + 2)) (k := 14) hC (okR hr_r rfl) rfl hi dX7_lighten_180 ?_
        obtain ⟨hi, h⟩ := gd_some h
        refine V_lald (g := (r + 2)) (k := 20) hC (okR hr_r rfl) rfl hi dX7_lighten_181 ?_
        refine V_lsub hC dX7_lighten_182 ?_
        obtain ⟨hi, h⟩ := gd_some h
        refine V_last (g := (r + 2)) (k := 22) hC (okR hr_r rfl) rfl hi dX7_lighten_183 ?_
        refine V_hl h (fun H20 h => ?_)
        refine V_vi h (fun v21 hvv21 h => ?_)
        refine V_iinc (v := v21) (lv' := [(2, .int v21), (0, .ref (ad (r + 2) 2))]) hC 1 dX7_lighten_184 rfl hvv21.symm (Nat.le_of_ble_eq_true rfl) rfl ?_
        refine V_goto (tgt := 115) hC dX7_lighten_187 (by decide) ?_
        refine V_lv (lv' := [(0, .ref (ad (r + 2) 2)), (2, .int v21)]) [1, 0] rfl ?_
        exact ih v21 H20 h
      · have h := it_neg c19 h
        refine V_lconst (v := 0) hC dX7_lighten_143 (by decide) ?_
        refine V_goto (tgt := 183) hC dX7_lighten_144 (by decide) ?_
        obtain ⟨hi, h⟩ := gd_some h
        refine V_last (g := (r + 2)) (k := 22) hC (okR hr_r rfl) rfl hi dX7_lighten_183 ?_
        refine V_hl h (fun H22 h => ?_)
        refine V_vi h (fun v23 hvv23 h => ?_)
        refine V_iinc (v := v23) (lv' := [(2, .int v23), (0, .ref (ad (r + 2) 2))]) hC 1 dX7_lighten_184 rfl hvv23.symm (Nat.le_of_ble_eq_true rfl) rfl ?_
        refine V_goto (tgt := 115) hC dX7_lighten_187 (by decide) ?_
        refine V_lv (lv' := [(0, .ref (ad (r + 2) 2)), (2, .int v23)]) [1, 0] rfl ?_
        exact ih v23 H22 h
def f_X7_lighten (r : Nat) (H : Hp) : Option (Unit × Hp) := L_X7_lighten_2 r (fun (H5 : Hp) => L_X7_lighten_35 r (fun (H12 : Hp) => vl (((gI H12 (r + 2) 1 10) - 1)) (fun (v13 : Int32) => L_X7_lighten_83 r (fun (H17 : Hp) => L_X7_lighten_115 r (fun (H24 : Hp) => some ((), H24)) FU 0 H17) FU v13 H12)) FU 0 H5) FU 0 H
set_option maxRecDepth 100000 in
set_option maxHeartbeats 4000000 in
theorem s_X7_lighten {p : Program} {l : Launch} {e : Env} {s : State} {m : MethodId} {args : Array Value} {below : List Frame} {meth : Method} {c : Code} {A : Nat → Prop} {D : va_G} {K4 : kQ} {ad : Nat → Nat → Nat} {nr : Nat} {r : Nat} {H : Hp} {res : Unit × Hp} (hC : Cx p s m args c A s.heap D K4 3 RX7 cX7_lighten) (hret : meth.sig.returnType = none ∧ meth.locks = false) (hr_r : r < nr) (h : f_X7_lighten r H = some res) : V p l e ({ frames := 2, cells := 0, slots := 0, locals := 47 }) s m args below meth c A s.heap (QU below args s A D K4 ad nr res) D K4 ad nr 3 0 [(0, .ref (ad (r + 2) 2)), (1, .ref (ad (r + 2) 26))] [] H := by
  unfold f_X7_lighten at h
  refine V_iconst (v := 0) hC dX7_lighten_0 (by decide) ?_
  refine V_istore_n (lv' := [(2, .int 0), (0, .ref (ad (r + 2) 2)), (1, .ref (ad (r + 2) 26))]) hC dX7_lighten_1 (Nat.le_of_ble_eq_true rfl) rfl ?_
  refine V_lv (lv' := [(0, .ref (ad (r + 2) 2)), (1, .ref (ad (r + 2) 26)), (2, .int 0)]) [1, 2, 0] rfl ?_
  refine sL_X7_lighten_2 hC hret hr_r (fun H5 h => ?_) _ 0 H h
  refine V_iconst (v := 0) hC dX7_lighten_33 (by decide) ?_
  refine V_istore_n (lv' := [(2, .int 0), (0, .ref (ad (r + 2) 2)), (1, .ref (ad (r + 2) 26))]) hC dX7_lighten_34 (Nat.le_of_ble_eq_true rfl) rfl ?_
  refine V_lv (lv' := [(0, .ref (ad (r + 2) 2)), (1, .ref (ad (r + 2) 26)), (2, .int 0)]) [1, 2, 0] rfl ?_
  refine sL_X7_lighten_35 hC hret hr_r (fun H12 h => ?_) _ 0 H5 h
  refine V_aload_n hC 0 dX7_lighten_73 rfl ?_
  refine V_getR (g := (r + 2)) (k := 2) (g' := (r + 2)) (k' := 1) hC 7 0 fl_X7_37 (okR hr_r rfl) rfl rfl rfl dX7_lighten_74 ?_
  refine V_getI (g := (r + 2)) (k := 1) hC 3 10 fl_X7_57 (okR hr_r rfl) rfl rfl dX7_lighten_77 ?_
  refine V_iconst (v := 1) hC dX7_lighten_80 (by decide) ?_
  refine V_isub hC dX7_lighten_81 ?_
  refine V_vlI h (fun v13 h => ?_)
  refine V_istore_n (lv' := [(2, .int v13), (0, .ref (ad (r + 2) 2))]) hC dX7_lighten_82 (Nat.le_of_ble_eq_true rfl) rfl ?_
  refine V_lv (lv' := [(0, .ref (ad (r + 2) 2)), (2, .int v13)]) [1, 0] rfl ?_
  refine sL_X7_lighten_83 hC hret hr_r (fun H17 h => ?_) _ v13 H12 h
  refine V_iconst (v := 0) hC dX7_lighten_113 (by decide) ?_
  refine V_istore_n (lv' := [(2, .int 0), (0, .ref (ad (r + 2) 2))]) hC dX7_lighten_114 (Nat.le_of_ble_eq_true rfl) rfl ?_
  refine V_lv (lv' := [(0, .ref (ad (r + 2) 2)), (2, .int 0)]) [1, 0] rfl ?_
  refine sL_X7_lighten_115 hC hret hr_r (fun H24 h => ?_) _ 0 H17 h
  exact V_vret hC hret dX7_lighten_190 h
theorem c_X7_lighten (l : Launch) {nr : Nat} {r : Nat} (hr_r : r < nr) {H : Hp} {x : Unit} {H' : Hp} (h : f_X7_lighten r H = some (x, H')) : CU l nr yX7_lighten cX7_lighten 3 none 2 47 (fun ad => [.ref (ad (r + 2) 2), .ref (ad (r + 2) 26)]) H x H' := by
  intro D K4 ad sz
  refine Met.ofV (by decide) (Nat.le_of_ble_eq_true rfl) ?_
  intro p e s m args below meth c hC hret hsz
  subst hsz
  exact s_X7_lighten hC hret hr_r h
theorem dX7_beginningOf_0 : decode cX7_beginningOf 0 = .ok (.iconst 0, 1) := by decide +kernel
theorem dX7_beginningOf_1 : decode cX7_beginningOf 1 = .ok (.istore_n 3, 1) := by decide +kernel
theorem dX7_beginningOf_2 : decode cX7_beginningOf 2 = .ok (.iconst 0, 1) := by decide +kernel
theorem dX7_beginningOf_3 : decode cX7_beginningOf 3 = .ok (.istore 4, 2) := by decide +kernel
theorem dX7_beginningOf_5 : decode cX7_beginningOf 5 = .ok (.iload 4, 2) := by decide +kernel
theorem dX7_beginningOf_7 : decode cX7_beginningOf 7 = .ok (.aload_n 0, 1) := by decide +kernel
theorem dX7_beginningOf_8 : decode cX7_beginningOf 8 = .ok (.getfield 37, 3) := by decide +kernel
theorem dX7_beginningOf_11 : decode cX7_beginningOf 11 = .ok (.getfield 57, 3) := by decide +kernel
theorem dX7_beginningOf_14 : decode cX7_beginningOf 14 = .ok (.if_icmp .ge 38, 3) := by decide +kernel
theorem dX7_beginningOf_17 : decode cX7_beginningOf 17 = .ok (.aload_n 0, 1) := by decide +kernel
theorem dX7_beginningOf_18 : decode cX7_beginningOf 18 = .ok (.getfield 15, 3) := by decide +kernel
theorem dX7_beginningOf_21 : decode cX7_beginningOf 21 = .ok (.iload 4, 2) := by decide +kernel
theorem dX7_beginningOf_23 : decode cX7_beginningOf 23 = .ok (.laload, 1) := by decide +kernel
theorem dX7_beginningOf_24 : decode cX7_beginningOf 24 = .ok (.ldc2_w 87, 3) := by decide +kernel
theorem dX7_beginningOf_27 : decode cX7_beginningOf 27 = .ok (.lcmp, 1) := by decide +kernel
theorem dX7_beginningOf_28 : decode cX7_beginningOf 28 = .ok (.ifCond .eq 18, 3) := by decide +kernel
theorem dX7_beginningOf_31 : decode cX7_beginningOf 31 = .ok (.aload_n 0, 1) := by decide +kernel
theorem dX7_beginningOf_32 : decode cX7_beginningOf 32 = .ok (.getfield 15, 3) := by decide +kernel
theorem dX7_beginningOf_35 : decode cX7_beginningOf 35 = .ok (.iload 4, 2) := by decide +kernel
theorem dX7_beginningOf_37 : decode cX7_beginningOf 37 = .ok (.laload, 1) := by decide +kernel
theorem dX7_beginningOf_38 : decode cX7_beginningOf 38 = .ok (.lload_n 1, 1) := by decide +kernel
theorem dX7_beginningOf_39 : decode cX7_beginningOf 39 = .ok (.lcmp, 1) := by decide +kernel
theorem dX7_beginningOf_40 : decode cX7_beginningOf 40 = .ok (.ifCond .gt 6, 3) := by decide +kernel
theorem dX7_beginningOf_43 : decode cX7_beginningOf 43 = .ok (.iload 4, 2) := by decide +kernel
theorem dX7_beginningOf_45 : decode cX7_beginningOf 45 = .ok (.istore_n 3, 1) := by decide +kernel
theorem dX7_beginningOf_46 : decode cX7_beginningOf 46 = .ok (.iinc 4 1, 3) := by decide +kernel
theorem dX7_beginningOf_49 : decode cX7_beginningOf 49 = .ok (.goto (-44), 3) := by decide +kernel
theorem dX7_beginningOf_52 : decode cX7_beginningOf 52 = .ok (.iload_n 3, 1) := by decide +kernel
theorem dX7_beginningOf_53 : decode cX7_beginningOf 53 = .ok (.ireturn, 1) := by decide +kernel
def L_X7_beginningOf_5 (r : Nat) (b1 : Int64) (k : Int32 → Hp → Option (Int32 × Hp)) : Nat → Int32 → Int32 → Hp → Option (Int32 × Hp)
  | 0, _, _, _ => none
  | n + 1, x3, x4, H => if (gI H (r + 2) 1 10) ≤ x4 then k x3 H else gd x4 20 (if (lg_cmp (gJ H (r + 2) 19 (Int32.toNatClampNeg x4)) (-1)) = 0 then vl (x4 + (1 : Int32)) (fun (v3 : Int32) => L_X7_beginningOf_5 r b1 k n x3 v3 H) else gd x4 20 (if 0 < (lg_cmp (gJ H (r + 2) 19 (Int32.toNatClampNeg x4)) b1) then vl (x4 + (1 : Int32)) (fun (v5 : Int32) => L_X7_beginningOf_5 r b1 k n x3 v5 H) else vl (x4 + (1 : Int32)) (fun (v6 : Int32) => L_X7_beginningOf_5 r b1 k n x4 v6 H)))
set_option maxRecDepth 100000 in
set_option maxHeartbeats 4000000 in
theorem sL_X7_beginningOf_5 {p : Program} {l : Launch} {e : Env} {s : State} {m : MethodId} {args : Array Value} {below : List Frame} {meth : Method} {c : Code} {A : Nat → Prop} {D : va_G} {K4 : kQ} {ad : Nat → Nat → Nat} {nr : Nat} {r : Nat} {b1 : Int64} {k : Int32 → Hp → Option (Int32 × Hp)} {res : Int32 × Hp} (hC : Cx p s m args c A s.heap D K4 5 RX7 cX7_beginningOf) (hret : meth.sig.returnType = (some .int) ∧ meth.locks = false) (hr_r : r < nr) (hk : ∀ (z3 : Int32) (H : Hp), k z3 H = some res → V p l e ({ frames := 0, cells := 0, slots := 0, locals := 0 }) s m args below meth c A s.heap (QI below args s A D K4 ad nr res) D K4 ad nr 5 52 [(3, .int z3)] [] H) : ∀ (n : Nat) (x3 : Int32) (x4 : Int32) (H : Hp), L_X7_beginningOf_5 r b1 k n x3 x4 H = some res → V p l e ({ frames := 0, cells := 0, slots := 0, locals := 0 }) s m args below meth c A s.heap (QI below args s A D K4 ad nr res) D K4 ad nr 5 5 [(0, .ref (ad (r + 2) 2)), (1, .long b1), (3, .int x3), (4, .int x4)] [] H := by
  intro n
  induction n with
  | zero => intro x3 x4 H h; exact nomatch (show (none : Option (Int32 × Hp)) = some res from h)
  | succ n ih =>
    intro x3 x4 H h
    rw [L_X7_beginningOf_5] at h
    refine V_iload hC 3 dX7_beginningOf_5 rfl ?_
    refine V_aload_n hC 0 dX7_beginningOf_7 rfl ?_
    refine V_getR (g := (r + 2)) (k := 2) (g' := (r + 2)) (k' := 1) hC 7 0 fl_X7_37 (okR hr_r rfl) rfl rfl rfl dX7_beginningOf_8 ?_
    refine V_getI (g := (r + 2)) (k := 1) hC 3 10 fl_X7_57 (okR hr_r rfl) rfl rfl dX7_beginningOf_11 ?_
    refine V_icmp_ge (tgt := 52) hC dX7_beginningOf_14 (by decide) (fun c1 => ?_) (fun c1 => ?_)
    · have h := it_pos c1 h
      refine V_lv (lv' := [(3, .int x3)]) [2] rfl ?_
      exact hk x3 H h
    · have h := it_neg c1 h
      refine V_aload_n hC 0 dX7_beginningOf_17 rfl ?_
      refine V_getR (g := (r + 2)) (k := 2) (g' := (r + 2)) (k' := 19) hC 7 2 fl_X7_15 (okR hr_r rfl) rfl rfl rfl dX7_beginningOf_18 ?_
      refine V_iload hC 3 dX7_beginningOf_21 rfl ?_
      obtain ⟨hi, h⟩ := gd_some h
      refine V_lald (g := (r + 2)) (k := 19) hC (okR hr_r rfl) rfl hi dX7_beginningOf_23 ?_
      refine V_ldc2 hC dX7_beginningOf_24 cl_X7_87 ?_
      refine V_lcmp hC dX7_beginningOf_27 ?_
      refine V_if_eq (tgt := 46) hC dX7_beginningOf_28 (by decide) (fun c2 => ?_) (fun c2 => ?_)
      · have h := it_pos c2 h
        refine V_vi h (fun v3 hvv3 h => ?_)
        refine V_iinc (v := v3) (lv' := [(4, .int v3), (0, .ref (ad (r + 2) 2)), (1, .long b1), (3, .int x3)]) hC 3 dX7_beginningOf_46 rfl hvv3.symm (Nat.le_of_ble_eq_true rfl) rfl ?_
        refine V_goto (tgt := 5) hC dX7_beginningOf_49 (by decide) ?_
        refine V_lv (lv' := [(0, .ref (ad (r + 2) 2)), (1, .long b1), (3, .int x3), (4, .int v3)]) [1, 2, 3, 0] rfl ?_
        exact ih x3 v3 H h
      · have h := it_neg c2 h
        refine V_aload_n hC 0 dX7_beginningOf_31 rfl ?_
        refine V_getR (g := (r + 2)) (k := 2) (g' := (r + 2)) (k' := 19) hC 7 2 fl_X7_15 (okR hr_r rfl) rfl rfl rfl dX7_beginningOf_32 ?_
        refine V_iload hC 3 dX7_beginningOf_35 rfl ?_
        obtain ⟨hi, h⟩ := gd_some h
        refine V_lald (g := (r + 2)) (k := 19) hC (okR hr_r rfl) rfl hi dX7_beginningOf_37 ?_
        refine V_lload_n hC 1 dX7_beginningOf_38 rfl ?_
        refine V_lcmp hC dX7_beginningOf_39 ?_
        refine V_if_gt (tgt := 46) hC dX7_beginningOf_40 (by decide) (fun c4 => ?_) (fun c4 => ?_)
        · have h := it_pos c4 h
          refine V_vi h (fun v5 hvv5 h => ?_)
          refine V_iinc (v := v5) (lv' := [(4, .int v5), (0, .ref (ad (r + 2) 2)), (1, .long b1), (3, .int x3)]) hC 3 dX7_beginningOf_46 rfl hvv5.symm (Nat.le_of_ble_eq_true rfl) rfl ?_
          refine V_goto (tgt := 5) hC dX7_beginningOf_49 (by decide) ?_
          refine V_lv (lv' := [(0, .ref (ad (r + 2) 2)), (1, .long b1), (3, .int x3), (4, .int v5)]) [1, 2, 3, 0] rfl ?_
          exact ih x3 v5 H h
        · have h := it_neg c4 h
          refine V_iload hC 3 dX7_beginningOf_43 rfl ?_
          refine V_istore_n (lv' := [(3, .int x4), (0, .ref (ad (r + 2) 2)), (1, .long b1), (4, .int x4)]) hC dX7_beginningOf_45 (Nat.le_of_ble_eq_true rfl) rfl ?_
          refine V_vi h (fun v6 hvv6 h => ?_)
          refine V_iinc (v := v6) (lv' := [(4, .int v6), (3, .int x4), (0, .ref (ad (r + 2) 2)), (1, .long b1)]) hC 3 dX7_beginningOf_46 rfl hvv6.symm (Nat.le_of_ble_eq_true rfl) rfl ?_
          refine V_goto (tgt := 5) hC dX7_beginningOf_49 (by decide) ?_
          refine V_lv (lv' := [(0, .ref (ad (r + 2) 2)), (1, .long b1), (3, .int x4), (4, .int v6)]) [2, 3, 1, 0] rfl ?_
          exact ih x4 v6 H h
def f_X7_beginningOf (r : Nat) (a1 : Int64) (H : Hp) : Option (Int32 × Hp) := L_X7_beginningOf_5 r a1 (fun (z7 : Int32) (H8 : Hp) => some (z7, H8)) FU 0 0 H
set_option maxRecDepth 100000 in
set_option maxHeartbeats 4000000 in
theorem s_X7_beginningOf {p : Program} {l : Launch} {e : Env} {s : State} {m : MethodId} {args : Array Value} {below : List Frame} {meth : Method} {c : Code} {A : Nat → Prop} {D : va_G} {K4 : kQ} {ad : Nat → Nat → Nat} {nr : Nat} {r : Nat} {a1 : Int64} {H : Hp} {res : Int32 × Hp} (hC : Cx p s m args c A s.heap D K4 5 RX7 cX7_beginningOf) (hret : meth.sig.returnType = (some .int) ∧ meth.locks = false) (hr_r : r < nr) (h : f_X7_beginningOf r a1 H = some res) : V p l e ({ frames := 0, cells := 0, slots := 0, locals := 0 }) s m args below meth c A s.heap (QI below args s A D K4 ad nr res) D K4 ad nr 5 0 [(0, .ref (ad (r + 2) 2)), (1, .long a1)] [] H := by
  unfold f_X7_beginningOf at h
  refine V_iconst (v := 0) hC dX7_beginningOf_0 (by decide) ?_
  refine V_istore_n (lv' := [(3, .int 0), (0, .ref (ad (r + 2) 2)), (1, .long a1)]) hC dX7_beginningOf_1 (Nat.le_of_ble_eq_true rfl) rfl ?_
  refine V_iconst (v := 0) hC dX7_beginningOf_2 (by decide) ?_
  refine V_istore (lv' := [(4, .int 0), (3, .int 0), (0, .ref (ad (r + 2) 2)), (1, .long a1)]) hC dX7_beginningOf_3 (Nat.le_of_ble_eq_true rfl) rfl ?_
  refine V_lv (lv' := [(0, .ref (ad (r + 2) 2)), (1, .long a1), (3, .int 0), (4, .int 0)]) [2, 3, 1, 0] rfl ?_
  refine sL_X7_beginningOf_5 hC hret hr_r (fun z7 H8 h => ?_) _ 0 0 H h
  refine V_iload_n hC 0 dX7_beginningOf_52 rfl ?_
  exact V_iret hC hret dX7_beginningOf_53 h
theorem c_X7_beginningOf (l : Launch) {nr : Nat} {r : Nat} (hr_r : r < nr) {a1 : Int64} {H : Hp} {x : Int32} {H' : Hp} (h : f_X7_beginningOf r a1 H = some (x, H')) : CI l nr yX7_beginningOf cX7_beginningOf 5 (some .int) 0 0 (fun ad => [.ref (ad (r + 2) 2), .long a1]) H x H' := by
  intro D K4 ad sz
  refine Met.ofV (by decide) (Nat.le_of_ble_eq_true rfl) ?_
  intro p e s m args below meth c hC hret hsz
  subst hsz
  exact s_X7_beginningOf hC hret hr_r h
theorem dX7_edgeFor_0 : decode cX7_edgeFor 0 = .ok (.iconst (-1), 1) := by decide +kernel
theorem dX7_edgeFor_1 : decode cX7_edgeFor 1 = .ok (.istore 4, 2) := by decide +kernel
theorem dX7_edgeFor_3 : decode cX7_edgeFor 3 = .ok (.iconst 0, 1) := by decide +kernel
theorem dX7_edgeFor_4 : decode cX7_edgeFor 4 = .ok (.istore 5, 2) := by decide +kernel
theorem dX7_edgeFor_6 : decode cX7_edgeFor 6 = .ok (.iload 5, 2) := by decide +kernel
theorem dX7_edgeFor_8 : decode cX7_edgeFor 8 = .ok (.aload_n 0, 1) := by decide +kernel
theorem dX7_edgeFor_9 : decode cX7_edgeFor 9 = .ok (.getfield 37, 3) := by decide +kernel
theorem dX7_edgeFor_12 : decode cX7_edgeFor 12 = .ok (.getfield 71, 3) := by decide +kernel
theorem dX7_edgeFor_15 : decode cX7_edgeFor 15 = .ok (.iload_n 1, 1) := by decide +kernel
theorem dX7_edgeFor_16 : decode cX7_edgeFor 16 = .ok (.iaload, 1) := by decide +kernel
theorem dX7_edgeFor_17 : decode cX7_edgeFor 17 = .ok (.if_icmp .ge 41, 3) := by decide +kernel
theorem dX7_edgeFor_20 : decode cX7_edgeFor 20 = .ok (.aload_n 0, 1) := by decide +kernel
theorem dX7_edgeFor_21 : decode cX7_edgeFor 21 = .ok (.getfield 37, 3) := by decide +kernel
theorem dX7_edgeFor_24 : decode cX7_edgeFor 24 = .ok (.getfield 74, 3) := by decide +kernel
theorem dX7_edgeFor_27 : decode cX7_edgeFor 27 = .ok (.iload_n 1, 1) := by decide +kernel
theorem dX7_edgeFor_28 : decode cX7_edgeFor 28 = .ok (.iconst 4, 1) := by decide +kernel
theorem dX7_edgeFor_29 : decode cX7_edgeFor 29 = .ok (.imul, 1) := by decide +kernel
theorem dX7_edgeFor_30 : decode cX7_edgeFor 30 = .ok (.iload 5, 2) := by decide +kernel
theorem dX7_edgeFor_32 : decode cX7_edgeFor 32 = .ok (.iadd, 1) := by decide +kernel
theorem dX7_edgeFor_33 : decode cX7_edgeFor 33 = .ok (.iaload, 1) := by decide +kernel
theorem dX7_edgeFor_34 : decode cX7_edgeFor 34 = .ok (.istore 6, 2) := by decide +kernel
theorem dX7_edgeFor_36 : decode cX7_edgeFor 36 = .ok (.aload_n 0, 1) := by decide +kernel
theorem dX7_edgeFor_37 : decode cX7_edgeFor 37 = .ok (.getfield 21, 3) := by decide +kernel
theorem dX7_edgeFor_40 : decode cX7_edgeFor 40 = .ok (.iload 6, 2) := by decide +kernel
theorem dX7_edgeFor_42 : decode cX7_edgeFor 42 = .ok (.laload, 1) := by decide +kernel
theorem dX7_edgeFor_43 : decode cX7_edgeFor 43 = .ok (.lload_n 2, 1) := by decide +kernel
theorem dX7_edgeFor_44 : decode cX7_edgeFor 44 = .ok (.lcmp, 1) := by decide +kernel
theorem dX7_edgeFor_45 : decode cX7_edgeFor 45 = .ok (.ifCond .gt 7, 3) := by decide +kernel
theorem dX7_edgeFor_48 : decode cX7_edgeFor 48 = .ok (.iload 6, 2) := by decide +kernel
theorem dX7_edgeFor_50 : decode cX7_edgeFor 50 = .ok (.istore 4, 2) := by decide +kernel
theorem dX7_edgeFor_52 : decode cX7_edgeFor 52 = .ok (.iinc 5 1, 3) := by decide +kernel
theorem dX7_edgeFor_55 : decode cX7_edgeFor 55 = .ok (.goto (-49), 3) := by decide +kernel
theorem dX7_edgeFor_58 : decode cX7_edgeFor 58 = .ok (.iload 4, 2) := by decide +kernel
theorem dX7_edgeFor_60 : decode cX7_edgeFor 60 = .ok (.ireturn, 1) := by decide +kernel
def L_X7_edgeFor_6 (r : Nat) (b1 : Int32) (b2 : Int64) (k : Int32 → Hp → Option (Int32 × Hp)) : Nat → Int32 → Int32 → Hp → Option (Int32 × Hp)
  | 0, _, _, _ => none
  | n + 1, x4, x5, H => gd b1 20 (if (gI H (r + 2) 10 (Int32.toNatClampNeg b1)) ≤ x5 then k x4 H else gd ((b1 * 4) + x5) 80 (vl ((gI H (r + 2) 12 (Int32.toNatClampNeg ((b1 * 4) + x5)))) (fun (v2 : Int32) => gd v2 40 (if 0 < (lg_cmp (gJ H (r + 2) 21 (Int32.toNatClampNeg v2)) b2) then vl (x5 + (1 : Int32)) (fun (v4 : Int32) => L_X7_edgeFor_6 r b1 b2 k n x4 v4 H) else vl (x5 + (1 : Int32)) (fun (v5 : Int32) => L_X7_edgeFor_6 r b1 b2 k n v2 v5 H)))))
set_option maxRecDepth 100000 in
set_option maxHeartbeats 4000000 in
theorem sL_X7_edgeFor_6 {p : Program} {l : Launch} {e : Env} {s : State} {m : MethodId} {args : Array Value} {below : List Frame} {meth : Method} {c : Code} {A : Nat → Prop} {D : va_G} {K4 : kQ} {ad : Nat → Nat → Nat} {nr : Nat} {r : Nat} {b1 : Int32} {b2 : Int64} {k : Int32 → Hp → Option (Int32 × Hp)} {res : Int32 × Hp} (hC : Cx p s m args c A s.heap D K4 7 RX7 cX7_edgeFor) (hret : meth.sig.returnType = (some .int) ∧ meth.locks = false) (hr_r : r < nr) (hk : ∀ (z4 : Int32) (H : Hp), k z4 H = some res → V p l e ({ frames := 0, cells := 0, slots := 0, locals := 0 }) s m args below meth c A s.heap (QI below args s A D K4 ad nr res) D K4 ad nr 7 58 [(4, .int z4)] [] H) : ∀ (n : Nat) (x4 : Int32) (x5 : Int32) (H : Hp), L_X7_edgeFor_6 r b1 b2 k n x4 x5 H = some res → V p l e ({ frames := 0, cells := 0, slots := 0, locals := 0 }) s m args below meth c A s.heap (QI below args s A D K4 ad nr res) D K4 ad nr 7 6 [(0, .ref (ad (r + 2) 2)), (1, .int b1), (2, .long b2), (4, .int x4), (5, .int x5)] [] H := by
  intro n
  induction n with
  | zero => intro x4 x5 H h; exact nomatch (show (none : Option (Int32 × Hp)) = some res from h)
  | succ n ih =>
    intro x4 x5 H h
    rw [L_X7_edgeFor_6] at h
    refine V_iload hC 4 dX7_edgeFor_6 rfl ?_
    refine V_aload_n hC 0 dX7_edgeFor_8 rfl ?_
    refine V_getR (g := (r + 2)) (k := 2) (g' := (r + 2)) (k' := 1) hC 7 0 fl_X7_37 (okR hr_r rfl) rfl rfl rfl dX7_edgeFor_9 ?_
    refine V_getR (g := (r + 2)) (k := 1) (g' := (r + 2)) (k' := 10) hC 3 2 fl_X7_71 (okR hr_r rfl) rfl rfl rfl dX7_edgeFor_12 ?_
    refine V_iload_n hC 1 dX7_edgeFor_15 rfl ?_
    obtain ⟨hi, h⟩ := gd_some h
    refine V_iald (g := (r + 2)) (k := 10) hC (okR hr_r rfl) rfl hi dX7_edgeFor_16 ?_
    refine V_icmp_ge (tgt := 58) hC dX7_edgeFor_17 (by decide) (fun c1 => ?_) (fun c1 => ?_)
    · have h := it_pos c1 h
      refine V_lv (lv' := [(4, .int x4)]) [3] rfl ?_
      exact hk x4 H h
    · have h := it_neg c1 h
      refine V_aload_n hC 0 dX7_edgeFor_20 rfl ?_
      refine V_getR (g := (r + 2)) (k := 2) (g' := (r + 2)) (k' := 1) hC 7 0 fl_X7_37 (okR hr_r rfl) rfl rfl rfl dX7_edgeFor_21 ?_
      refine V_getR (g := (r + 2)) (k := 1) (g' := (r + 2)) (k' := 12) hC 3 4 fl_X7_74 (okR hr_r rfl) rfl rfl rfl dX7_edgeFor_24 ?_
      refine V_iload_n hC 1 dX7_edgeFor_27 rfl ?_
      refine V_iconst (v := 4) hC dX7_edgeFor_28 (by decide) ?_
      refine V_imul hC dX7_edgeFor_29 ?_
      refine V_iload hC 4 dX7_edgeFor_30 rfl ?_
      refine V_iadd hC dX7_edgeFor_32 ?_
      obtain ⟨hi, h⟩ := gd_some h
      refine V_iald (g := (r + 2)) (k := 12) hC (okR hr_r rfl) rfl hi dX7_edgeFor_33 ?_
      refine V_vlI h (fun v2 h => ?_)
      refine V_istore (lv' := [(6, .int v2), (0, .ref (ad (r + 2) 2)), (1, .int b1), (2, .long b2), (4, .int x4), (5, .int x5)]) hC dX7_edgeFor_34 (Nat.le_of_ble_eq_true rfl) rfl ?_
      refine V_aload_n hC 1 dX7_edgeFor_36 rfl ?_
      refine V_getR (g := (r + 2)) (k := 2) (g' := (r + 2)) (k' := 21) hC 7 4 fl_X7_21 (okR hr_r rfl) rfl rfl rfl dX7_edgeFor_37 ?_
      refine V_iload hC 0 dX7_edgeFor_40 rfl ?_
      obtain ⟨hi, h⟩ := gd_some h
      refine V_lald (g := (r + 2)) (k := 21) hC (okR hr_r rfl) rfl hi dX7_edgeFor_42 ?_
      refine V_lload_n hC 3 dX7_edgeFor_43 rfl ?_
      refine V_lcmp hC dX7_edgeFor_44 ?_
      refine V_if_gt (tgt := 52) hC dX7_edgeFor_45 (by decide) (fun c3 => ?_) (fun c3 => ?_)
      · have h := it_pos c3 h
        refine V_vi h (fun v4 hvv4 h => ?_)
        refine V_iinc (v := v4) (lv' := [(5, .int v4), (6, .int v2), (0, .ref (ad (r + 2) 2)), (1, .int b1), (2, .long b2), (4, .int x4)]) hC 5 dX7_edgeFor_52 rfl hvv4.symm (Nat.le_of_ble_eq_true rfl) rfl ?_
        refine V_goto (tgt := 6) hC dX7_edgeFor_55 (by decide) ?_
        refine V_lv (lv' := [(0, .ref (ad (r + 2) 2)), (1, .int b1), (2, .long b2), (4, .int x4), (5, .int v4)]) [2, 3, 4, 5, 0] rfl ?_
        exact ih x4 v4 H h
      · have h := it_neg c3 h
        refine V_iload hC 0 dX7_edgeFor_48 rfl ?_
        refine V_istore (lv' := [(4, .int v2), (6, .int v2), (0, .ref (ad (r + 2) 2)), (1, .int b1), (2, .long b2), (5, .int x5)]) hC dX7_edgeFor_50 (Nat.le_of_ble_eq_true rfl) rfl ?_
        refine V_vi h (fun v5 hvv5 h => ?_)
        refine V_iinc (v := v5) (lv' := [(5, .int v5), (4, .int v2), (6, .int v2), (0, .ref (ad (r + 2) 2)), (1, .int b1), (2, .long b2)]) hC 5 dX7_edgeFor_52 rfl hvv5.symm (Nat.le_of_ble_eq_true rfl) rfl ?_
        refine V_goto (tgt := 6) hC dX7_edgeFor_55 (by decide) ?_
        refine V_lv (lv' := [(0, .ref (ad (r + 2) 2)), (1, .int b1), (2, .long b2), (4, .int v2), (5, .int v5)]) [3, 4, 5, 1, 0] rfl ?_
        exact ih v2 v5 H h
def f_X7_edgeFor (r : Nat) (a1 : Int32) (a2 : Int64) (H : Hp) : Option (Int32 × Hp) := L_X7_edgeFor_6 r a1 a2 (fun (z6 : Int32) (H7 : Hp) => some (z6, H7)) FU (-1) 0 H
set_option maxRecDepth 100000 in
set_option maxHeartbeats 4000000 in
theorem s_X7_edgeFor {p : Program} {l : Launch} {e : Env} {s : State} {m : MethodId} {args : Array Value} {below : List Frame} {meth : Method} {c : Code} {A : Nat → Prop} {D : va_G} {K4 : kQ} {ad : Nat → Nat → Nat} {nr : Nat} {r : Nat} {a1 : Int32} {a2 : Int64} {H : Hp} {res : Int32 × Hp} (hC : Cx p s m args c A s.heap D K4 7 RX7 cX7_edgeFor) (hret : meth.sig.returnType = (some .int) ∧ meth.locks = false) (hr_r : r < nr) (h : f_X7_edgeFor r a1 a2 H = some res) : V p l e ({ frames := 0, cells := 0, slots := 0, locals := 0 }) s m args below meth c A s.heap (QI below args s A D K4 ad nr res) D K4 ad nr 7 0 [(0, .ref (ad (r + 2) 2)), (1, .int a1), (2, .long a2)] [] H := by
  unfold f_X7_edgeFor at h
  refine V_iconst (v := -1) hC dX7_edgeFor_0 (by decide) ?_
  refine V_istore (lv' := [(4, .int (-1)), (0, .ref (ad (r + 2) 2)), (1, .int a1), (2, .long a2)]) hC dX7_edgeFor_1 (Nat.le_of_ble_eq_true rfl) rfl ?_
  refine V_iconst (v := 0) hC dX7_edgeFor_3 (by decide) ?_
  refine V_istore (lv' := [(5, .int 0), (4, .int (-1)), (0, .ref (ad (r + 2) 2)), (1, .int a1), (2, .long a2)]) hC dX7_edgeFor_4 (Nat.le_of_ble_eq_true rfl) rfl ?_
  refine V_lv (lv' := [(0, .ref (ad (r + 2) 2)), (1, .int a1), (2, .long a2), (4, .int (-1)), (5, .int 0)]) [2, 3, 4, 1, 0] rfl ?_
  refine sL_X7_edgeFor_6 hC hret hr_r (fun z6 H7 h => ?_) _ (-1) 0 H h
  refine V_iload hC 0 dX7_edgeFor_58 rfl ?_
  exact V_iret hC hret dX7_edgeFor_60 h
theorem c_X7_edgeFor (l : Launch) {nr : Nat} {r : Nat} (hr_r : r < nr) {a1 : Int32} {a2 : Int64} {H : Hp} {x : Int32} {H' : Hp} (h : f_X7_edgeFor r a1 a2 H = some (x, H')) : CI l nr yX7_edgeFor cX7_edgeFor 7 (some .int) 0 0 (fun ad => [.ref (ad (r + 2) 2), .int a1, .long a2]) H x H' := by
  intro D K4 ad sz
  refine Met.ofV (by decide) (Nat.le_of_ble_eq_true rfl) ?_
  intro p e s m args below meth c hC hret hsz
  subst hsz
  exact s_X7_edgeFor hC hret hr_r h
theorem dX7_unfold_0 : decode cX7_unfold 0 = .ok (.aload_n 0, 1) := by decide +kernel
theorem dX7_unfold_1 : decode cX7_unfold 1 = .ok (.iconst 0, 1) := by decide +kernel
theorem dX7_unfold_2 : decode cX7_unfold 2 = .ok (.putfield 104, 3) := by decide +kernel
theorem dX7_unfold_5 : decode cX7_unfold 5 = .ok (.lload_n 1, 1) := by decide +kernel
theorem dX7_unfold_6 : decode cX7_unfold 6 = .ok (.lconst 0, 1) := by decide +kernel
theorem dX7_unfold_7 : decode cX7_unfold 7 = .ok (.lcmp, 1) := by decide +kernel
theorem dX7_unfold_8 : decode cX7_unfold 8 = .ok (.ifCond .lt 12, 3) := by decide +kernel
theorem dX7_unfold_11 : decode cX7_unfold 11 = .ok (.lload_n 1, 1) := by decide +kernel
theorem dX7_unfold_12 : decode cX7_unfold 12 = .ok (.aload_n 0, 1) := by decide +kernel
theorem dX7_unfold_13 : decode cX7_unfold 13 = .ok (.getfield 51, 3) := by decide +kernel
theorem dX7_unfold_16 : decode cX7_unfold 16 = .ok (.lcmp, 1) := by decide +kernel
theorem dX7_unfold_17 : decode cX7_unfold 17 = .ok (.ifCond .lt 5, 3) := by decide +kernel
theorem dX7_unfold_20 : decode cX7_unfold 20 = .ok (.iconst 0, 1) := by decide +kernel
theorem dX7_unfold_21 : decode cX7_unfold 21 = .ok (.ireturn, 1) := by decide +kernel
theorem dX7_unfold_22 : decode cX7_unfold 22 = .ok (.aload_n 0, 1) := by decide +kernel
theorem dX7_unfold_23 : decode cX7_unfold 23 = .ok (.lload_n 1, 1) := by decide +kernel
theorem dX7_unfold_24 : decode cX7_unfold 24 = .ok (.invokevirtual 107, 3) := by decide +kernel
theorem dX7_unfold_27 : decode cX7_unfold 27 = .ok (.istore_n 3, 1) := by decide +kernel
theorem dX7_unfold_28 : decode cX7_unfold 28 = .ok (.lload_n 1, 1) := by decide +kernel
theorem dX7_unfold_29 : decode cX7_unfold 29 = .ok (.lload_n 1, 1) := by decide +kernel
theorem dX7_unfold_30 : decode cX7_unfold 30 = .ok (.aload_n 0, 1) := by decide +kernel
theorem dX7_unfold_31 : decode cX7_unfold 31 = .ok (.getfield 9, 3) := by decide +kernel
theorem dX7_unfold_34 : decode cX7_unfold 34 = .ok (.iconst 0, 1) := by decide +kernel
theorem dX7_unfold_35 : decode cX7_unfold 35 = .ok (.laload, 1) := by decide +kernel
theorem dX7_unfold_36 : decode cX7_unfold 36 = .ok (.lcmp, 1) := by decide +kernel
theorem dX7_unfold_37 : decode cX7_unfold 37 = .ok (.ifCond .ge 7, 3) := by decide +kernel
theorem dX7_unfold_40 : decode cX7_unfold 40 = .ok (.lconst 0, 1) := by decide +kernel
theorem dX7_unfold_41 : decode cX7_unfold 41 = .ok (.goto 9, 3) := by decide +kernel
theorem dX7_unfold_44 : decode cX7_unfold 44 = .ok (.aload_n 0, 1) := by decide +kernel
theorem dX7_unfold_45 : decode cX7_unfold 45 = .ok (.getfield 15, 3) := by decide +kernel
theorem dX7_unfold_48 : decode cX7_unfold 48 = .ok (.iload_n 3, 1) := by decide +kernel
theorem dX7_unfold_49 : decode cX7_unfold 49 = .ok (.laload, 1) := by decide +kernel
theorem dX7_unfold_50 : decode cX7_unfold 50 = .ok (.lsub, 1) := by decide +kernel
theorem dX7_unfold_51 : decode cX7_unfold 51 = .ok (.lstore 4, 2) := by decide +kernel
theorem dX7_unfold_53 : decode cX7_unfold 53 = .ok (.iload_n 3, 1) := by decide +kernel
theorem dX7_unfold_54 : decode cX7_unfold 54 = .ok (.iconst (-1), 1) := by decide +kernel
theorem dX7_unfold_55 : decode cX7_unfold 55 = .ok (.if_icmp .eq 116, 3) := by decide +kernel
theorem dX7_unfold_58 : decode cX7_unfold 58 = .ok (.aload_n 0, 1) := by decide +kernel
theorem dX7_unfold_59 : decode cX7_unfold 59 = .ok (.getfield 104, 3) := by decide +kernel
theorem dX7_unfold_62 : decode cX7_unfold 62 = .ok (.aload_n 0, 1) := by decide +kernel
theorem dX7_unfold_63 : decode cX7_unfold 63 = .ok (.getfield 37, 3) := by decide +kernel
theorem dX7_unfold_66 : decode cX7_unfold 66 = .ok (.getfield 57, 3) := by decide +kernel
theorem dX7_unfold_69 : decode cX7_unfold 69 = .ok (.if_icmp .ge 102, 3) := by decide +kernel
theorem dX7_unfold_72 : decode cX7_unfold 72 = .ok (.aload_n 0, 1) := by decide +kernel
theorem dX7_unfold_73 : decode cX7_unfold 73 = .ok (.iload_n 3, 1) := by decide +kernel
theorem dX7_unfold_74 : decode cX7_unfold 74 = .ok (.lload 4, 2) := by decide +kernel
theorem dX7_unfold_76 : decode cX7_unfold 76 = .ok (.invokevirtual 111, 3) := by decide +kernel
theorem dX7_unfold_79 : decode cX7_unfold 79 = .ok (.istore 6, 2) := by decide +kernel
theorem dX7_unfold_81 : decode cX7_unfold 81 = .ok (.aload_n 0, 1) := by decide +kernel
theorem dX7_unfold_82 : decode cX7_unfold 82 = .ok (.getfield 31, 3) := by decide +kernel
theorem dX7_unfold_85 : decode cX7_unfold 85 = .ok (.aload_n 0, 1) := by decide +kernel
theorem dX7_unfold_86 : decode cX7_unfold 86 = .ok (.getfield 104, 3) := by decide +kernel
theorem dX7_unfold_89 : decode cX7_unfold 89 = .ok (.iload_n 3, 1) := by decide +kernel
theorem dX7_unfold_90 : decode cX7_unfold 90 = .ok (.iastore, 1) := by decide +kernel
theorem dX7_unfold_91 : decode cX7_unfold 91 = .ok (.aload_n 0, 1) := by decide +kernel
theorem dX7_unfold_92 : decode cX7_unfold 92 = .ok (.getfield 34, 3) := by decide +kernel
theorem dX7_unfold_95 : decode cX7_unfold 95 = .ok (.aload_n 0, 1) := by decide +kernel
theorem dX7_unfold_96 : decode cX7_unfold 96 = .ok (.getfield 104, 3) := by decide +kernel
theorem dX7_unfold_99 : decode cX7_unfold 99 = .ok (.iload 6, 2) := by decide +kernel
theorem dX7_unfold_101 : decode cX7_unfold 101 = .ok (.iastore, 1) := by decide +kernel
theorem dX7_unfold_102 : decode cX7_unfold 102 = .ok (.aload_n 0, 1) := by decide +kernel
theorem dX7_unfold_103 : decode cX7_unfold 103 = .ok (.dup, 1) := by decide +kernel
theorem dX7_unfold_104 : decode cX7_unfold 104 = .ok (.getfield 104, 3) := by decide +kernel
theorem dX7_unfold_107 : decode cX7_unfold 107 = .ok (.iconst 1, 1) := by decide +kernel
theorem dX7_unfold_108 : decode cX7_unfold 108 = .ok (.iadd, 1) := by decide +kernel
theorem dX7_unfold_109 : decode cX7_unfold 109 = .ok (.putfield 104, 3) := by decide +kernel
theorem dX7_unfold_112 : decode cX7_unfold 112 = .ok (.lload 4, 2) := by decide +kernel
theorem dX7_unfold_114 : decode cX7_unfold 114 = .ok (.iload 6, 2) := by decide +kernel
theorem dX7_unfold_116 : decode cX7_unfold 116 = .ok (.iconst (-1), 1) := by decide +kernel
theorem dX7_unfold_117 : decode cX7_unfold 117 = .ok (.if_icmp .ne 7, 3) := by decide +kernel
theorem dX7_unfold_120 : decode cX7_unfold 120 = .ok (.lconst 0, 1) := by decide +kernel
theorem dX7_unfold_121 : decode cX7_unfold 121 = .ok (.goto 10, 3) := by decide +kernel
theorem dX7_unfold_124 : decode cX7_unfold 124 = .ok (.aload_n 0, 1) := by decide +kernel
theorem dX7_unfold_125 : decode cX7_unfold 125 = .ok (.getfield 21, 3) := by decide +kernel
theorem dX7_unfold_128 : decode cX7_unfold 128 = .ok (.iload 6, 2) := by decide +kernel
theorem dX7_unfold_130 : decode cX7_unfold 130 = .ok (.laload, 1) := by decide +kernel
theorem dX7_unfold_131 : decode cX7_unfold 131 = .ok (.lsub, 1) := by decide +kernel
theorem dX7_unfold_132 : decode cX7_unfold 132 = .ok (.lstore 4, 2) := by decide +kernel
theorem dX7_unfold_134 : decode cX7_unfold 134 = .ok (.iload 6, 2) := by decide +kernel
theorem dX7_unfold_136 : decode cX7_unfold 136 = .ok (.iconst (-1), 1) := by decide +kernel
theorem dX7_unfold_137 : decode cX7_unfold 137 = .ok (.if_icmp .eq 16, 3) := by decide +kernel
theorem dX7_unfold_140 : decode cX7_unfold 140 = .ok (.aload_n 0, 1) := by decide +kernel
theorem dX7_unfold_141 : decode cX7_unfold 141 = .ok (.getfield 37, 3) := by decide +kernel
theorem dX7_unfold_144 : decode cX7_unfold 144 = .ok (.getfield 80, 3) := by decide +kernel
theorem dX7_unfold_147 : decode cX7_unfold 147 = .ok (.iload 6, 2) := by decide +kernel
theorem dX7_unfold_149 : decode cX7_unfold 149 = .ok (.baload, 1) := by decide +kernel
theorem dX7_unfold_150 : decode cX7_unfold 150 = .ok (.ifCond .eq 7, 3) := by decide +kernel
theorem dX7_unfold_153 : decode cX7_unfold 153 = .ok (.iconst (-1), 1) := by decide +kernel
theorem dX7_unfold_154 : decode cX7_unfold 154 = .ok (.goto 13, 3) := by decide +kernel
theorem dX7_unfold_157 : decode cX7_unfold 157 = .ok (.aload_n 0, 1) := by decide +kernel
theorem dX7_unfold_158 : decode cX7_unfold 158 = .ok (.getfield 37, 3) := by decide +kernel
theorem dX7_unfold_161 : decode cX7_unfold 161 = .ok (.getfield 84, 3) := by decide +kernel
theorem dX7_unfold_164 : decode cX7_unfold 164 = .ok (.iload 6, 2) := by decide +kernel
theorem dX7_unfold_166 : decode cX7_unfold 166 = .ok (.iaload, 1) := by decide +kernel
theorem dX7_unfold_167 : decode cX7_unfold 167 = .ok (.istore_n 3, 1) := by decide +kernel
theorem dX7_unfold_168 : decode cX7_unfold 168 = .ok (.goto (-115), 3) := by decide +kernel
theorem dX7_unfold_171 : decode cX7_unfold 171 = .ok (.iconst 1, 1) := by decide +kernel
theorem dX7_unfold_172 : decode cX7_unfold 172 = .ok (.ireturn, 1) := by decide +kernel
def L_X7_unfold_53 (r : Nat) (k : Hp → Option (Int32 × Hp)) : Nat → Int32 → Int64 → Hp → Option (Int32 × Hp)
  | 0, _, _, _ => none
  | n + 1, x3, x4, H => if x3 = (-1) then k H else if (gI H (r + 2) 1 10) ≤ (gI H (r + 2) 2 9) then k H else bnd (f_X7_edgeFor r x3 x4 H) (fun w13 H12 => gd (gI H12 (r + 2) 2 9) 20 (hl (sI H12 (r + 2) 24 (Int32.toNatClampNeg (gI H12 (r + 2) 2 9)) x3) (fun (H14 : Hp) => gd (gI H14 (r + 2) 2 9) 20 (hl (sI H14 (r + 2) 25 (Int32.toNatClampNeg (gI H14 (r + 2) 2 9)) w13) (fun (H15 : Hp) => hl (sI H15 (r + 2) 2 9 ((gI H15 (r + 2) 2 9) + 1)) (fun (H16 : Hp) => jn (fun (y18 : Int64) (H19 : Hp) => vl ((x4 - y18)) (fun (v20 : Int64) => if w13 = (-1) then L_X7_unfold_53 r k n (-1) v20 H19 else gd w13 40 (if (gI H19 (r + 2) 16 (Int32.toNatClampNeg w13)) = 0 then gd w13 61 (vl ((gI H19 (r + 2) 14 (Int32.toNatClampNeg w13))) (fun (v23 : Int32) => L_X7_unfold_53 r k n v23 v20 H19)) else L_X7_unfold_53 r k n (-1) v20 H19))) (fun j17 => if w13 = (-1) then j17 0 H16 else gd w13 40 (j17 ((gJ H16 (r + 2) 21 (Int32.toNatClampNeg w13))) H16))))))))
set_option maxRecDepth 100000 in
set_option maxHeartbeats 4000000 in
theorem sL_X7_unfold_53 {p : Program} {l : Launch} {e : Env} {s : State} {m : MethodId} {args : Array Value} {below : List Frame} {meth : Method} {c : Code} {A : Nat → Prop} {D : va_G} {K4 : kQ} {ad : Nat → Nat → Nat} {nr : Nat} {r : Nat} {k : Hp → Option (Int32 × Hp)} {res : Int32 × Hp} (hC : Cx p s m args c A s.heap D K4 7 RX7 cX7_unfold) (hret : meth.sig.returnType = (some .boolean) ∧ meth.locks = false) (hr_r : r < nr) (hk : ∀ (H : Hp), k H = some res → V p l e ({ frames := 1, cells := 0, slots := 0, locals := 26 }) s m args below meth c A s.heap (QI below args s A D K4 ad nr res) D K4 ad nr 7 171 [] [] H) : ∀ (n : Nat) (x3 : Int32) (x4 : Int64) (H : Hp), L_X7_unfold_53 r k n x3 x4 H = some res → V p l e ({ frames := 1, cells := 0, slots := 0, locals := 26 }) s m args below meth c A s.heap (QI below args s A D K4 ad nr res) D K4 ad nr 7 53 [(0, .ref (ad (r + 2) 2)), (3, .int x3), (4, .long x4)] [] H := by
  intro n
  induction n with
  | zero => intro x3 x4 H h; exact nomatch (show (none : Option (Int32 × Hp)) = some res from h)
  | succ n ih =>
    intro x3 x4 H h
    rw [L_X7_unfold_53] at h
    refine V_iload_n hC 1 dX7_unfold_53 rfl ?_
    refine V_iconst (v := -1) hC dX7_unfold_54 (by decide) ?_
    refine V_icmp_eq (tgt := 171) hC dX7_unfold_55 (by decide) (fun c10 => ?_) (fun c10 => ?_)
    · have h := it_pos c10 h
      refine V_lv (lv' := []) [] rfl ?_
      exact hk H h
    · have h := it_neg c10 h
      refine V_aload_n hC 0 dX7_unfold_58 rfl ?_
      refine V_getI (g := (r + 2)) (k := 2) hC 7 9 fl_X7_104 (okR hr_r rfl) rfl rfl dX7_unfold_59 ?_
      refine V_aload_n hC 0 dX7_unfold_62 rfl ?_
      refine V_getR (g := (r + 2)) (k := 2) (g' := (r + 2)) (k' := 1) hC 7 0 fl_X7_37 (okR hr_r rfl) rfl rfl rfl dX7_unfold_63 ?_
      refine V_getI (g := (r + 2)) (k := 1) hC 3 10 fl_X7_57 (okR hr_r rfl) rfl rfl dX7_unfold_66 ?_
      refine V_icmp_ge (tgt := 171) hC dX7_unfold_69 (by decide) (fun c11 => ?_) (fun c11 => ?_)
      · have h := it_pos c11 h
        refine V_lv (lv' := []) [] rfl ?_
        exact hk H h
      · have h := it_neg c11 h
        refine V_aload_n hC 0 dX7_unfold_72 rfl ?_
        refine V_iload_n hC 1 dX7_unfold_73 rfl ?_
        refine V_lload hC 2 dX7_unfold_74 rfl ?_
        obtain ⟨w13, H12, hc, h⟩ := bnd_some h
        refine V_calli (g := (r + 2)) (k := 2) (As := [.int x3, .long x4]) (st := []) hC (c_X7_edgeFor l (hr_r := hr_r) hc) rfl ml_X7_111 ⟨Nat.le_of_ble_eq_true rfl, Nat.le_of_ble_eq_true rfl⟩ (okR hr_r rfl) rfl rfl (Nat.le_of_ble_eq_true rfl) dX7_unfold_76 ?_
        refine V_istore (lv' := [(6, .int w13), (0, .ref (ad (r + 2) 2)), (3, .int x3), (4, .long x4)]) hC dX7_unfold_79 (Nat.le_of_ble_eq_true rfl) rfl ?_
        refine V_aload_n hC 1 dX7_unfold_81 rfl ?_
        refine V_getR (g := (r + 2)) (k := 2) (g' := (r + 2)) (k' := 24) hC 7 7 fl_X7_31 (okR hr_r rfl) rfl rfl rfl dX7_unfold_82 ?_
        refine V_aload_n hC 1 dX7_unfold_85 rfl ?_
        refine V_getI (g := (r + 2)) (k := 2) hC 7 9 fl_X7_104 (okR hr_r rfl) rfl rfl dX7_unfold_86 ?_
        refine V_iload_n hC 2 dX7_unfold_89 rfl ?_
        obtain ⟨hi, h⟩ := gd_some h
        refine V_iast (g := (r + 2)) (k := 24) hC (okR hr_r rfl) rfl hi dX7_unfold_90 ?_
        refine V_hl h (fun H14 h => ?_)
        refine V_aload_n hC 1 dX7_unfold_91 rfl ?_
        refine V_getR (g := (r + 2)) (k := 2) (g' := (r + 2)) (k' := 25) hC 7 8 fl_X7_34 (okR hr_r rfl) rfl rfl rfl dX7_unfold_92 ?_
        refine V_aload_n hC 1 dX7_unfold_95 rfl ?_
        refine V_getI (g := (r + 2)) (k := 2) hC 7 9 fl_X7_104 (okR hr_r rfl) rfl rfl dX7_unfold_96 ?_
        refine V_iload hC 0 dX7_unfold_99 rfl ?_
        obtain ⟨hi, h⟩ := gd_some h
        refine V_iast (g := (r + 2)) (k := 25) hC (okR hr_r rfl) rfl hi dX7_unfold_101 ?_
        refine V_hl h (fun H15 h => ?_)
        refine V_aload_n hC 1 dX7_unfold_102 rfl ?_
        refine V_dup hC dX7_unfold_103 rfl ?_
        refine V_getI (g := (r + 2)) (k := 2) hC 7 9 fl_X7_104 (okR hr_r rfl) rfl rfl dX7_unfold_104 ?_
        refine V_iconst (v := 1) hC dX7_unfold_107 (by decide) ?_
        refine V_iadd hC dX7_unfold_108 ?_
        refine V_putI (g := (r + 2)) (k := 2) hC 7 9 .int fw_X7_104 (okR hr_r rfl) rfl rfl rfl rfl dX7_unfold_109 ?_
        refine V_hl h (fun H16 h => ?_)
        refine V_lload hC 3 dX7_unfold_112 rfl ?_
        refine V_iload hC 0 dX7_unfold_114 rfl ?_
        refine V_iconst (v := -1) hC dX7_unfold_116 (by decide) ?_
        refine V_jn1 (pj := 131) (lj := fun y18 => [(0, .ref (ad (r + 2) 2)), (6, .int w13)]) (sj := fun y18 => [.long y18, .long x4]) h (fun y18 H19 h => ?_) (fun hj17 h => ?_)
        · refine V_lsub hC dX7_unfold_131 ?_
          refine V_vlJ h (fun v20 h => ?_)
          refine V_lstore (lv' := [(4, .long v20), (0, .ref (ad (r + 2) 2)), (6, .int w13)]) hC dX7_unfold_132 (Nat.le_of_ble_eq_true rfl) rfl ?_
          refine V_iload hC 2 dX7_unfold_134 rfl ?_
          refine V_iconst (v := -1) hC dX7_unfold_136 (by decide) ?_
          refine V_icmp_eq (tgt := 153) hC dX7_unfold_137 (by decide) (fun c21 => ?_) (fun c21 => ?_)
          · have h := it_pos c21 h
            refine V_iconst (v := -1) hC dX7_unfold_153 (by decide) ?_
            refine V_goto (tgt := 167) hC dX7_unfold_154 (by decide) ?_
            refine V_istore_n (lv' := [(3, .int (-1)), (4, .long v20), (0, .ref (ad (r + 2) 2)), (6, .int w13)]) hC dX7_unfold_167 (Nat.le_of_ble_eq_true rfl) rfl ?_
            refine V_goto (tgt := 53) hC dX7_unfold_168 (by decide) ?_
            refine V_lv (lv' := [(0, .ref (ad (r + 2) 2)), (3, .int (-1)), (4, .long v20)]) [2, 0, 1] rfl ?_
            exact ih (-1) v20 H19 h
          · have h := it_neg c21 h
            refine V_aload_n hC 1 dX7_unfold_140 rfl ?_
            refine V_getR (g := (r + 2)) (k := 2) (g' := (r + 2)) (k' := 1) hC 7 0 fl_X7_37 (okR hr_r rfl) rfl rfl rfl dX7_unfold_141 ?_
            refine V_getR (g := (r + 2)) (k := 1) (g' := (r + 2)) (k' := 16) hC 3 8 fl_X7_80 (okR hr_r rfl) rfl rfl rfl dX7_unfold_144 ?_
            refine V_iload hC 2 dX7_unfold_147 rfl ?_
            obtain ⟨hi, h⟩ := gd_some h
            refine V_zald (g := (r + 2)) (k := 16) hC (okR hr_r rfl) rfl hi dX7_unfold_149 ?_
            refine V_if_eq (tgt := 157) hC dX7_unfold_150 (by decide) (fun c22 => ?_) (fun c22 => ?_)
            · have h := it_pos c22 h
              refine V_aload_n hC 1 dX7_unfold_157 rfl ?_
              refine V_getR (g := (r + 2)) (k := 2) (g' := (r + 2)) (k' := 1) hC 7 0 fl_X7_37 (okR hr_r rfl) rfl rfl rfl dX7_unfold_158 ?_
              refine V_getR (g := (r + 2)) (k := 1) (g' := (r + 2)) (k' := 14) hC 3 6 fl_X7_84 (okR hr_r rfl) rfl rfl rfl dX7_unfold_161 ?_
              refine V_iload hC 2 dX7_unfold_164 rfl ?_
              obtain ⟨hi, h⟩ := gd_some h
              refine V_iald (g := (r + 2)) (k := 14) hC (okR hr_r rfl) rfl hi dX7_unfold_166 ?_
              refine V_vlI h (fun v23 h => ?_)
              refine V_istore_n (lv' := [(3, .int v23), (4, .long v20), (0, .ref (ad (r + 2) 2)), (6, .int w13)]) hC dX7_unfold_167 (Nat.le_of_ble_eq_true rfl) rfl ?_
              refine V_goto (tgt := 53) hC dX7_unfold_168 (by decide) ?_
              refine V_lv (lv' := [(0, .ref (ad (r + 2) 2)), (3, .int v23), (4, .long v20)]) [2, 0, 1] rfl ?_
              exact ih v23 v20 H19 h
            · have h := it_neg c22 h
              refine V_iconst (v := -1) hC dX7_unfold_153 (by decide) ?_
              refine V_goto (tgt := 167) hC dX7_unfold_154 (by decide) ?_
              refine V_istore_n (lv' := [(3, .int (-1)), (4, .long v20), (0, .ref (ad (r + 2) 2)), (6, .int w13)]) hC dX7_unfold_167 (Nat.le_of_ble_eq_true rfl) rfl ?_
              refine V_goto (tgt := 53) hC dX7_unfold_168 (by decide) ?_
              refine V_lv (lv' := [(0, .ref (ad (r + 2) 2)), (3, .int (-1)), (4, .long v20)]) [2, 0, 1] rfl ?_
              exact ih (-1) v20 H19 h
        · refine V_icmp_ne (tgt := 124) hC dX7_unfold_117 (by decide) (fun c24 => ?_) (fun c24 => ?_)
          · have h := it_neg c24 h
            refine V_aload_n hC 1 dX7_unfold_124 rfl ?_
            refine V_getR (g := (r + 2)) (k := 2) (g' := (r + 2)) (k' := 21) hC 7 4 fl_X7_21 (okR hr_r rfl) rfl rfl rfl dX7_unfold_125 ?_
            refine V_iload hC 0 dX7_unfold_128 rfl ?_
            obtain ⟨hi, h⟩ := gd_some h
            refine V_lald (g := (r + 2)) (k := 21) hC (okR hr_r rfl) rfl hi dX7_unfold_130 ?_
            refine V_lv (lv' := [(0, .ref (ad (r + 2) 2)), (6, .int w13)]) [1, 0] rfl ?_
            exact hj17 ((gJ H16 (r + 2) 21 (Int32.toNatClampNeg w13))) H16 h
          · have h := it_pos c24 h
            refine V_lconst (v := 0) hC dX7_unfold_120 (by decide) ?_
            refine V_goto (tgt := 131) hC dX7_unfold_121 (by decide) ?_
            refine V_lv (lv' := [(0, .ref (ad (r + 2) 2)), (6, .int w13)]) [1, 0] rfl ?_
            exact hj17 0 H16 h
def f_X7_unfold (r : Nat) (a1 : Int64) (H : Hp) : Option (Int32 × Hp) := hl (sI H (r + 2) 2 9 0) (fun (H1 : Hp) => if (lg_cmp a1 0) < 0 then some (0, H1) else if (lg_cmp a1 (gJ H1 (r + 2) 2 10)) < 0 then bnd (f_X7_beginningOf r a1 H1) (fun w5 H4 => gd 0 20 (jn (fun (y7 : Int64) (H8 : Hp) => vl ((a1 - y7)) (fun (v9 : Int64) => L_X7_unfold_53 r (fun (H25 : Hp) => some (1, H25)) FU w5 v9 H8)) (fun j6 => if 0 ≤ (lg_cmp a1 (gJ H4 (r + 2) 18 (Int32.toNatClampNeg 0))) then gd w5 20 (j6 ((gJ H4 (r + 2) 19 (Int32.toNatClampNeg w5))) H4) else j6 0 H4))) else some (0, H1))
set_option maxRecDepth 100000 in
set_option maxHeartbeats 4000000 in
theorem s_X7_unfold {p : Program} {l : Launch} {e : Env} {s : State} {m : MethodId} {args : Array Value} {below : List Frame} {meth : Method} {c : Code} {A : Nat → Prop} {D : va_G} {K4 : kQ} {ad : Nat → Nat → Nat} {nr : Nat} {r : Nat} {a1 : Int64} {H : Hp} {res : Int32 × Hp} (hC : Cx p s m args c A s.heap D K4 7 RX7 cX7_unfold) (hret : meth.sig.returnType = (some .boolean) ∧ meth.locks = false) (hr_r : r < nr) (h : f_X7_unfold r a1 H = some res) : V p l e ({ frames := 1, cells := 0, slots := 0, locals := 26 }) s m args below meth c A s.heap (QI below args s A D K4 ad nr res) D K4 ad nr 7 0 [(0, .ref (ad (r + 2) 2)), (1, .long a1)] [] H := by
  unfold f_X7_unfold at h
  refine V_aload_n hC 0 dX7_unfold_0 rfl ?_
  refine V_iconst (v := 0) hC dX7_unfold_1 (by decide) ?_
  refine V_putI (g := (r + 2)) (k := 2) hC 7 9 .int fw_X7_104 (okR hr_r rfl) rfl rfl rfl rfl dX7_unfold_2 ?_
  refine V_hl h (fun H1 h => ?_)
  refine V_lload_n hC 1 dX7_unfold_5 rfl ?_
  refine V_lconst (v := 0) hC dX7_unfold_6 (by decide) ?_
  refine V_lcmp hC dX7_unfold_7 ?_
  refine V_if_lt (tgt := 20) hC dX7_unfold_8 (by decide) (fun c2 => ?_) (fun c2 => ?_)
  · have h := it_pos c2 h
    refine V_iconst (v := 0) hC dX7_unfold_20 (by decide) ?_
    exact V_zret hC hret (by decide) dX7_unfold_21 h
  · have h := it_neg c2 h
    refine V_lload_n hC 1 dX7_unfold_11 rfl ?_
    refine V_aload_n hC 0 dX7_unfold_12 rfl ?_
    refine V_getJ (g := (r + 2)) (k := 2) hC 7 10 fl_X7_51 (okR hr_r rfl) rfl rfl dX7_unfold_13 ?_
    refine V_lcmp hC dX7_unfold_16 ?_
    refine V_if_lt (tgt := 22) hC dX7_unfold_17 (by decide) (fun c3 => ?_) (fun c3 => ?_)
    · have h := it_pos c3 h
      refine V_aload_n hC 0 dX7_unfold_22 rfl ?_
      refine V_lload_n hC 1 dX7_unfold_23 rfl ?_
      obtain ⟨w5, H4, hc, h⟩ := bnd_some h
      refine V_calli (g := (r + 2)) (k := 2) (As := [.long a1]) (st := []) hC (c_X7_beginningOf l (hr_r := hr_r) hc) rfl ml_X7_107 ⟨Nat.le_of_ble_eq_true rfl, Nat.le_of_ble_eq_true rfl⟩ (okR hr_r rfl) rfl rfl (Nat.le_of_ble_eq_true rfl) dX7_unfold_24 ?_
      refine V_istore_n (lv' := [(3, .int w5), (0, .ref (ad (r + 2) 2)), (1, .long a1)]) hC dX7_unfold_27 (Nat.le_of_ble_eq_true rfl) rfl ?_
      refine V_lload_n hC 2 dX7_unfold_28 rfl ?_
      refine V_lload_n hC 2 dX7_unfold_29 rfl ?_
      refine V_aload_n hC 1 dX7_unfold_30 rfl ?_
      refine V_getR (g := (r + 2)) (k := 2) (g' := (r + 2)) (k' := 18) hC 7 1 fl_X7_9 (okR hr_r rfl) rfl rfl rfl dX7_unfold_31 ?_
      refine V_iconst (v := 0) hC dX7_unfold_34 (by decide) ?_
      obtain ⟨hi, h⟩ := gd_some h
      refine V_lald (g := (r + 2)) (k := 18) hC (okR hr_r rfl) rfl hi dX7_unfold_35 ?_
      refine V_lcmp hC dX7_unfold_36 ?_
      refine V_jn1 (pj := 50) (lj := fun y7 => [(0, .ref (ad (r + 2) 2)), (3, .int w5)]) (sj := fun y7 => [.long y7, .long a1]) h (fun y7 H8 h => ?_) (fun hj6 h => ?_)
      · refine V_lsub hC dX7_unfold_50 ?_
        refine V_vlJ h (fun v9 h => ?_)
        refine V_lstore (lv' := [(4, .long v9), (0, .ref (ad (r + 2) 2)), (3, .int w5)]) hC dX7_unfold_51 (Nat.le_of_ble_eq_true rfl) rfl ?_
        refine V_lv (lv' := [(0, .ref (ad (r + 2) 2)), (3, .int w5), (4, .long v9)]) [1, 2, 0] rfl ?_
        refine sL_X7_unfold_53 hC hret hr_r (fun H25 h => ?_) _ w5 v9 H8 h
        refine V_iconst (v := 1) hC dX7_unfold_171 (by decide) ?_
        exact V_zret hC hret (by decide) dX7_unfold_172 h
      · refine V_if_ge (tgt := 44) hC dX7_unfold_37 (by decide) (fun c26 => ?_) (fun c26 => ?_)
        · have h := it_pos c26 h
          refine V_aload_n hC 1 dX7_unfold_44 rfl ?_
          refine V_getR (g := (r + 2)) (k := 2) (g' := (r + 2)) (k' := 19) hC 7 2 fl_X7_15 (okR hr_r rfl) rfl rfl rfl dX7_unfold_45 ?_
          refine V_iload_n hC 0 dX7_unfold_48 rfl ?_
          obtain ⟨hi, h⟩ := gd_some h
          refine V_lald (g := (r + 2)) (k := 19) hC (okR hr_r rfl) rfl hi dX7_unfold_49 ?_
          refine V_lv (lv' := [(0, .ref (ad (r + 2) 2)), (3, .int w5)]) [1, 0] rfl ?_
          exact hj6 ((gJ H4 (r + 2) 19 (Int32.toNatClampNeg w5))) H4 h
        · have h := it_neg c26 h
          refine V_lconst (v := 0) hC dX7_unfold_40 (by decide) ?_
          refine V_goto (tgt := 50) hC dX7_unfold_41 (by decide) ?_
          refine V_lv (lv' := [(0, .ref (ad (r + 2) 2)), (3, .int w5)]) [1, 0] rfl ?_
          exact hj6 0 H4 h
    · have h := it_neg c3 h
      refine V_iconst (v := 0) hC dX7_unfold_20 (by decide) ?_
      exact V_zret hC hret (by decide) dX7_unfold_21 h
theorem c_X7_unfold (l : Launch) {nr : Nat} {r : Nat} (hr_r : r < nr) {a1 : Int64} {H : Hp} {x : Int32} {H' : Hp} (h : f_X7_unfold r a1 H = some (x, H')) : CI l nr yX7_unfold cX7_unfold 7 (some .boolean) 1 26 (fun ad => [.ref (ad (r + 2) 2), .long a1]) H x H' := by
  intro D K4 ad sz
  refine Met.ofV (by decide) (Nat.le_of_ble_eq_true rfl) ?_
  intro p e s m args below meth c hC hret hsz
  subst hsz
  exact s_X7_unfold hC hret hr_r h
theorem dX7_unfoldedBlock_0 : decode cX7_unfoldedBlock 0 = .ok (.iload_n 1, 1) := by decide +kernel
theorem dX7_unfoldedBlock_1 : decode cX7_unfoldedBlock 1 = .ok (.ifCond .lt 11, 3) := by decide +kernel
theorem dX7_unfoldedBlock_4 : decode cX7_unfoldedBlock 4 = .ok (.iload_n 1, 1) := by decide +kernel
theorem dX7_unfoldedBlock_5 : decode cX7_unfoldedBlock 5 = .ok (.aload_n 0, 1) := by decide +kernel
theorem dX7_unfoldedBlock_6 : decode cX7_unfoldedBlock 6 = .ok (.getfield 104, 3) := by decide +kernel
theorem dX7_unfoldedBlock_9 : decode cX7_unfoldedBlock 9 = .ok (.if_icmp .lt 7, 3) := by decide +kernel
theorem dX7_unfoldedBlock_12 : decode cX7_unfoldedBlock 12 = .ok (.iconst (-1), 1) := by decide +kernel
theorem dX7_unfoldedBlock_13 : decode cX7_unfoldedBlock 13 = .ok (.goto 9, 3) := by decide +kernel
theorem dX7_unfoldedBlock_16 : decode cX7_unfoldedBlock 16 = .ok (.aload_n 0, 1) := by decide +kernel
theorem dX7_unfoldedBlock_17 : decode cX7_unfoldedBlock 17 = .ok (.getfield 31, 3) := by decide +kernel
theorem dX7_unfoldedBlock_20 : decode cX7_unfoldedBlock 20 = .ok (.iload_n 1, 1) := by decide +kernel
theorem dX7_unfoldedBlock_21 : decode cX7_unfoldedBlock 21 = .ok (.iaload, 1) := by decide +kernel
theorem dX7_unfoldedBlock_22 : decode cX7_unfoldedBlock 22 = .ok (.ireturn, 1) := by decide +kernel
def f_X7_unfoldedBlock (r : Nat) (a1 : Int32) (H : Hp) : Option (Int32 × Hp) := if a1 < 0 then some ((-1), H) else if a1 < (gI H (r + 2) 2 9) then gd a1 20 (some ((gI H (r + 2) 24 (Int32.toNatClampNeg a1)), H)) else some ((-1), H)
set_option maxRecDepth 100000 in
set_option maxHeartbeats 4000000 in
theorem s_X7_unfoldedBlock {p : Program} {l : Launch} {e : Env} {s : State} {m : MethodId} {args : Array Value} {below : List Frame} {meth : Method} {c : Code} {A : Nat → Prop} {D : va_G} {K4 : kQ} {ad : Nat → Nat → Nat} {nr : Nat} {r : Nat} {a1 : Int32} {H : Hp} {res : Int32 × Hp} (hC : Cx p s m args c A s.heap D K4 2 RX7 cX7_unfoldedBlock) (hret : meth.sig.returnType = (some .int) ∧ meth.locks = false) (hr_r : r < nr) (h : f_X7_unfoldedBlock r a1 H = some res) : V p l e ({ frames := 0, cells := 0, slots := 0, locals := 0 }) s m args below meth c A s.heap (QI below args s A D K4 ad nr res) D K4 ad nr 2 0 [(0, .ref (ad (r + 2) 2)), (1, .int a1)] [] H := by
  unfold f_X7_unfoldedBlock at h
  refine V_iload_n hC 1 dX7_unfoldedBlock_0 rfl ?_
  refine V_if_lt (tgt := 12) hC dX7_unfoldedBlock_1 (by decide) (fun c1 => ?_) (fun c1 => ?_)
  · have h := it_pos c1 h
    refine V_iconst (v := -1) hC dX7_unfoldedBlock_12 (by decide) ?_
    refine V_goto (tgt := 22) hC dX7_unfoldedBlock_13 (by decide) ?_
    exact V_iret hC hret dX7_unfoldedBlock_22 h
  · have h := it_neg c1 h
    refine V_iload_n hC 1 dX7_unfoldedBlock_4 rfl ?_
    refine V_aload_n hC 0 dX7_unfoldedBlock_5 rfl ?_
    refine V_getI (g := (r + 2)) (k := 2) hC 7 9 fl_X7_104 (okR hr_r rfl) rfl rfl dX7_unfoldedBlock_6 ?_
    refine V_icmp_lt (tgt := 16) hC dX7_unfoldedBlock_9 (by decide) (fun c2 => ?_) (fun c2 => ?_)
    · have h := it_pos c2 h
      refine V_aload_n hC 0 dX7_unfoldedBlock_16 rfl ?_
      refine V_getR (g := (r + 2)) (k := 2) (g' := (r + 2)) (k' := 24) hC 7 7 fl_X7_31 (okR hr_r rfl) rfl rfl rfl dX7_unfoldedBlock_17 ?_
      refine V_iload_n hC 1 dX7_unfoldedBlock_20 rfl ?_
      obtain ⟨hi, h⟩ := gd_some h
      refine V_iald (g := (r + 2)) (k := 24) hC (okR hr_r rfl) rfl hi dX7_unfoldedBlock_21 ?_
      exact V_iret hC hret dX7_unfoldedBlock_22 h
    · have h := it_neg c2 h
      refine V_iconst (v := -1) hC dX7_unfoldedBlock_12 (by decide) ?_
      refine V_goto (tgt := 22) hC dX7_unfoldedBlock_13 (by decide) ?_
      exact V_iret hC hret dX7_unfoldedBlock_22 h
theorem c_X7_unfoldedBlock (l : Launch) {nr : Nat} {r : Nat} (hr_r : r < nr) {a1 : Int32} {H : Hp} {x : Int32} {H' : Hp} (h : f_X7_unfoldedBlock r a1 H = some (x, H')) : CI l nr yX7_unfoldedBlock cX7_unfoldedBlock 2 (some .int) 0 0 (fun ad => [.ref (ad (r + 2) 2), .int a1]) H x H' := by
  intro D K4 ad sz
  refine Met.ofV (by decide) (Nat.le_of_ble_eq_true rfl) ?_
  intro p e s m args below meth c hC hret hsz
  subst hsz
  exact s_X7_unfoldedBlock hC hret hr_r h
theorem dX7_unfoldedEdge_0 : decode cX7_unfoldedEdge 0 = .ok (.iload_n 1, 1) := by decide +kernel
theorem dX7_unfoldedEdge_1 : decode cX7_unfoldedEdge 1 = .ok (.ifCond .lt 11, 3) := by decide +kernel
theorem dX7_unfoldedEdge_4 : decode cX7_unfoldedEdge 4 = .ok (.iload_n 1, 1) := by decide +kernel
theorem dX7_unfoldedEdge_5 : decode cX7_unfoldedEdge 5 = .ok (.aload_n 0, 1) := by decide +kernel
theorem dX7_unfoldedEdge_6 : decode cX7_unfoldedEdge 6 = .ok (.getfield 104, 3) := by decide +kernel
theorem dX7_unfoldedEdge_9 : decode cX7_unfoldedEdge 9 = .ok (.if_icmp .lt 7, 3) := by decide +kernel
theorem dX7_unfoldedEdge_12 : decode cX7_unfoldedEdge 12 = .ok (.iconst (-1), 1) := by decide +kernel
theorem dX7_unfoldedEdge_13 : decode cX7_unfoldedEdge 13 = .ok (.goto 9, 3) := by decide +kernel
theorem dX7_unfoldedEdge_16 : decode cX7_unfoldedEdge 16 = .ok (.aload_n 0, 1) := by decide +kernel
theorem dX7_unfoldedEdge_17 : decode cX7_unfoldedEdge 17 = .ok (.getfield 34, 3) := by decide +kernel
theorem dX7_unfoldedEdge_20 : decode cX7_unfoldedEdge 20 = .ok (.iload_n 1, 1) := by decide +kernel
theorem dX7_unfoldedEdge_21 : decode cX7_unfoldedEdge 21 = .ok (.iaload, 1) := by decide +kernel
theorem dX7_unfoldedEdge_22 : decode cX7_unfoldedEdge 22 = .ok (.ireturn, 1) := by decide +kernel
def f_X7_unfoldedEdge (r : Nat) (a1 : Int32) (H : Hp) : Option (Int32 × Hp) := if a1 < 0 then some ((-1), H) else if a1 < (gI H (r + 2) 2 9) then gd a1 20 (some ((gI H (r + 2) 25 (Int32.toNatClampNeg a1)), H)) else some ((-1), H)
set_option maxRecDepth 100000 in
set_option maxHeartbeats 4000000 in
theorem s_X7_unfoldedEdge {p : Program} {l : Launch} {e : Env} {s : State} {m : MethodId} {args : Array Value} {below : List Frame} {meth : Method} {c : Code} {A : Nat → Prop} {D : va_G} {K4 : kQ} {ad : Nat → Nat → Nat} {nr : Nat} {r : Nat} {a1 : Int32} {H : Hp} {res : Int32 × Hp} (hC : Cx p s m args c A s.heap D K4 2 RX7 cX7_unfoldedEdge) (hret : meth.sig.returnType = (some .int) ∧ meth.locks = false) (hr_r : r < nr) (h : f_X7_unfoldedEdge r a1 H = some res) : V p l e ({ frames := 0, cells := 0, slots := 0, locals := 0 }) s m args below meth c A s.heap (QI below args s A D K4 ad nr res) D K4 ad nr 2 0 [(0, .ref (ad (r + 2) 2)), (1, .int a1)] [] H := by
  unfold f_X7_unfoldedEdge at h
  refine V_iload_n hC 1 dX7_unfoldedEdge_0 rfl ?_
  refine V_if_lt (tgt := 12) hC dX7_unfoldedEdge_1 (by decide) (fun c1 => ?_) (fun c1 => ?_)
  · have h := it_pos c1 h
    refine V_iconst (v := -1) hC dX7_unfoldedEdge_12 (by decide) ?_
    refine V_goto (tgt := 22) hC dX7_unfoldedEdge_13 (by decide) ?_
    exact V_iret hC hret dX7_unfoldedEdge_22 h
  · have h := it_neg c1 h
    refine V_iload_n hC 1 dX7_unfoldedEdge_4 rfl ?_
    refine V_aload_n hC 0 dX7_unfoldedEdge_5 rfl ?_
    refine V_getI (g := (r + 2)) (k := 2) hC 7 9 fl_X7_104 (okR hr_r rfl) rfl rfl dX7_unfoldedEdge_6 ?_
    refine V_icmp_lt (tgt := 16) hC dX7_unfoldedEdge_9 (by decide) (fun c2 => ?_) (fun c2 => ?_)
    · have h := it_pos c2 h
      refine V_aload_n hC 0 dX7_unfoldedEdge_16 rfl ?_
      refine V_getR (g := (r + 2)) (k := 2) (g' := (r + 2)) (k' := 25) hC 7 8 fl_X7_34 (okR hr_r rfl) rfl rfl rfl dX7_unfoldedEdge_17 ?_
      refine V_iload_n hC 1 dX7_unfoldedEdge_20 rfl ?_
      obtain ⟨hi, h⟩ := gd_some h
      refine V_iald (g := (r + 2)) (k := 25) hC (okR hr_r rfl) rfl hi dX7_unfoldedEdge_21 ?_
      exact V_iret hC hret dX7_unfoldedEdge_22 h
    · have h := it_neg c2 h
      refine V_iconst (v := -1) hC dX7_unfoldedEdge_12 (by decide) ?_
      refine V_goto (tgt := 22) hC dX7_unfoldedEdge_13 (by decide) ?_
      exact V_iret hC hret dX7_unfoldedEdge_22 h
theorem c_X7_unfoldedEdge (l : Launch) {nr : Nat} {r : Nat} (hr_r : r < nr) {a1 : Int32} {H : Hp} {x : Int32} {H' : Hp} (h : f_X7_unfoldedEdge r a1 H = some (x, H')) : CI l nr yX7_unfoldedEdge cX7_unfoldedEdge 2 (some .int) 0 0 (fun ad => [.ref (ad (r + 2) 2), .int a1]) H x H' := by
  intro D K4 ad sz
  refine Met.ofV (by decide) (Nat.le_of_ble_eq_true rfl) ?_
  intro p e s m args below meth c hC hret hsz
  subst hsz
  exact s_X7_unfoldedEdge hC hret hr_r h
theorem dX7_unfoldedHas_0 : decode cX7_unfoldedHas 0 = .ok (.iconst 0, 1) := by decide +kernel
theorem dX7_unfoldedHas_1 : decode cX7_unfoldedHas 1 = .ok (.istore_n 2, 1) := by decide +kernel
theorem dX7_unfoldedHas_2 : decode cX7_unfoldedHas 2 = .ok (.iload_n 2, 1) := by decide +kernel
theorem dX7_unfoldedHas_3 : decode cX7_unfoldedHas 3 = .ok (.aload_n 0, 1) := by decide +kernel
theorem dX7_unfoldedHas_4 : decode cX7_unfoldedHas 4 = .ok (.getfield 104, 3) := by decide +kernel
theorem dX7_unfoldedHas_7 : decode cX7_unfoldedHas 7 = .ok (.if_icmp .ge 21, 3) := by decide +kernel
theorem dX7_unfoldedHas_10 : decode cX7_unfoldedHas 10 = .ok (.aload_n 0, 1) := by decide +kernel
theorem dX7_unfoldedHas_11 : decode cX7_unfoldedHas 11 = .ok (.getfield 34, 3) := by decide +kernel
theorem dX7_unfoldedHas_14 : decode cX7_unfoldedHas 14 = .ok (.iload_n 2, 1) := by decide +kernel
theorem dX7_unfoldedHas_15 : decode cX7_unfoldedHas 15 = .ok (.iaload, 1) := by decide +kernel
theorem dX7_unfoldedHas_16 : decode cX7_unfoldedHas 16 = .ok (.iload_n 1, 1) := by decide +kernel
theorem dX7_unfoldedHas_17 : decode cX7_unfoldedHas 17 = .ok (.if_icmp .ne 5, 3) := by decide +kernel
theorem dX7_unfoldedHas_20 : decode cX7_unfoldedHas 20 = .ok (.iconst 1, 1) := by decide +kernel
theorem dX7_unfoldedHas_21 : decode cX7_unfoldedHas 21 = .ok (.ireturn, 1) := by decide +kernel
theorem dX7_unfoldedHas_22 : decode cX7_unfoldedHas 22 = .ok (.iinc 2 1, 3) := by decide +kernel
theorem dX7_unfoldedHas_25 : decode cX7_unfoldedHas 25 = .ok (.goto (-23), 3) := by decide +kernel
theorem dX7_unfoldedHas_28 : decode cX7_unfoldedHas 28 = .ok (.iconst 0, 1) := by decide +kernel
theorem dX7_unfoldedHas_29 : decode cX7_unfoldedHas 29 = .ok (.ireturn, 1) := by decide +kernel
def L_X7_unfoldedHas_2 (r : Nat) (b1 : Int32) (k : Hp → Option (Int32 × Hp)) : Nat → Int32 → Hp → Option (Int32 × Hp)
  | 0, _, _ => none
  | n + 1, x2, H => if (gI H (r + 2) 2 9) ≤ x2 then k H else gd x2 20 (if (gI H (r + 2) 25 (Int32.toNatClampNeg x2)) = b1 then some (1, H) else vl (x2 + (1 : Int32)) (fun (v3 : Int32) => L_X7_unfoldedHas_2 r b1 k n v3 H))
set_option maxRecDepth 100000 in
set_option maxHeartbeats 4000000 in
theorem sL_X7_unfoldedHas_2 {p : Program} {l : Launch} {e : Env} {s : State} {m : MethodId} {args : Array Value} {below : List Frame} {meth : Method} {c : Code} {A : Nat → Prop} {D : va_G} {K4 : kQ} {ad : Nat → Nat → Nat} {nr : Nat} {r : Nat} {b1 : Int32} {k : Hp → Option (Int32 × Hp)} {res : Int32 × Hp} (hC : Cx p s m args c A s.heap D K4 3 RX7 cX7_unfoldedHas) (hret : meth.sig.returnType = (some .boolean) ∧ meth.locks = false) (hr_r : r < nr) (hk : ∀ (H : Hp), k H = some res → V p l e ({ frames := 0, cells := 0, slots := 0, locals := 0 }) s m args below meth c A s.heap (QI below args s A D K4 ad nr res) D K4 ad nr 3 28 [] [] H) : ∀ (n : Nat) (x2 : Int32) (H : Hp), L_X7_unfoldedHas_2 r b1 k n x2 H = some res → V p l e ({ frames := 0, cells := 0, slots := 0, locals := 0 }) s m args below meth c A s.heap (QI below args s A D K4 ad nr res) D K4 ad nr 3 2 [(0, .ref (ad (r + 2) 2)), (1, .int b1), (2, .int x2)] [] H := by
  intro n
  induction n with
  | zero => intro x2 H h; exact nomatch (show (none : Option (Int32 × Hp)) = some res from h)
  | succ n ih =>
    intro x2 H h
    rw [L_X7_unfoldedHas_2] at h
    refine V_iload_n hC 2 dX7_unfoldedHas_2 rfl ?_
    refine V_aload_n hC 0 dX7_unfoldedHas_3 rfl ?_
    refine V_getI (g := (r + 2)) (k := 2) hC 7 9 fl_X7_104 (okR hr_r rfl) rfl rfl dX7_unfoldedHas_4 ?_
    refine V_icmp_ge (tgt := 28) hC dX7_unfoldedHas_7 (by decide) (fun c1 => ?_) (fun c1 => ?_)
    · have h := it_pos c1 h
      refine V_lv (lv' := []) [] rfl ?_
      exact hk H h
    · have h := it_neg c1 h
      refine V_aload_n hC 0 dX7_unfoldedHas_10 rfl ?_
      refine V_getR (g := (r + 2)) (k := 2) (g' := (r + 2)) (k' := 25) hC 7 8 fl_X7_34 (okR hr_r rfl) rfl rfl rfl dX7_unfoldedHas_11 ?_
      refine V_iload_n hC 2 dX7_unfoldedHas_14 rfl ?_
      obtain ⟨hi, h⟩ := gd_some h
      refine V_iald (g := (r + 2)) (k := 25) hC (okR hr_r rfl) rfl hi dX7_unfoldedHas_15 ?_
      refine V_iload_n hC 1 dX7_unfoldedHas_16 rfl ?_
      refine V_icmp_ne (tgt := 22) hC dX7_unfoldedHas_17 (by decide) (fun c2 => ?_) (fun c2 => ?_)
      · have h := it_neg c2 h
        refine V_vi h (fun v3 hvv3 h => ?_)
        refine V_iinc (v := v3) (lv' := [(2, .int v3), (0, .ref (ad (r + 2) 2)), (1, .int b1)]) hC 2 dX7_unfoldedHas_22 rfl hvv3.symm (Nat.le_of_ble_eq_true rfl) rfl ?_
        refine V_goto (tgt := 2) hC dX7_unfoldedHas_25 (by decide) ?_
        refine V_lv (lv' := [(0, .ref (ad (r + 2) 2)), (1, .int b1), (2, .int v3)]) [1, 2, 0] rfl ?_
        exact ih v3 H h
      · have h := it_pos c2 h
        refine V_iconst (v := 1) hC dX7_unfoldedHas_20 (by decide) ?_
        exact V_zret hC hret (by decide) dX7_unfoldedHas_21 h
def f_X7_unfoldedHas (r : Nat) (a1 : Int32) (H : Hp) : Option (Int32 × Hp) := L_X7_unfoldedHas_2 r a1 (fun (H4 : Hp) => some (0, H4)) FU 0 H
set_option maxRecDepth 100000 in
set_option maxHeartbeats 4000000 in
theorem s_X7_unfoldedHas {p : Program} {l : Launch} {e : Env} {s : State} {m : MethodId} {args : Array Value} {below : List Frame} {meth : Method} {c : Code} {A : Nat → Prop} {D : va_G} {K4 : kQ} {ad : Nat → Nat → Nat} {nr : Nat} {r : Nat} {a1 : Int32} {H : Hp} {res : Int32 × Hp} (hC : Cx p s m args c A s.heap D K4 3 RX7 cX7_unfoldedHas) (hret : meth.sig.returnType = (some .boolean) ∧ meth.locks = false) (hr_r : r < nr) (h : f_X7_unfoldedHas r a1 H = some res) : V p l e ({ frames := 0, cells := 0, slots := 0, locals := 0 }) s m args below meth c A s.heap (QI below args s A D K4 ad nr res) D K4 ad nr 3 0 [(0, .ref (ad (r + 2) 2)), (1, .int a1)] [] H := by
  unfold f_X7_unfoldedHas at h
  refine V_iconst (v := 0) hC dX7_unfoldedHas_0 (by decide) ?_
  refine V_istore_n (lv' := [(2, .int 0), (0, .ref (ad (r + 2) 2)), (1, .int a1)]) hC dX7_unfoldedHas_1 (Nat.le_of_ble_eq_true rfl) rfl ?_
  refine V_lv (lv' := [(0, .ref (ad (r + 2) 2)), (1, .int a1), (2, .int 0)]) [1, 2, 0] rfl ?_
  refine sL_X7_unfoldedHas_2 hC hret hr_r (fun H4 h => ?_) _ 0 H h
  refine V_iconst (v := 0) hC dX7_unfoldedHas_28 (by decide) ?_
  exact V_zret hC hret (by decide) dX7_unfoldedHas_29 h
theorem c_X7_unfoldedHas (l : Launch) {nr : Nat} {r : Nat} (hr_r : r < nr) {a1 : Int32} {H : Hp} {x : Int32} {H' : Hp} (h : f_X7_unfoldedHas r a1 H = some (x, H')) : CI l nr yX7_unfoldedHas cX7_unfoldedHas 3 (some .boolean) 0 0 (fun ad => [.ref (ad (r + 2) 2), .int a1]) H x H' := by
  intro D K4 ad sz
  refine Met.ofV (by decide) (Nat.le_of_ble_eq_true rfl) ?_
  intro p e s m args below meth c hC hret hsz
  subst hsz
  exact s_X7_unfoldedHas hC hret hr_r h
