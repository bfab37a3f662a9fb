theorem fw_X9_157 : FW RX9 157 9 0 .int := ⟨RX9, TX9, 56, tyX9, rfl, by decide, by decide, uw9, Or.inl (gwm 972 (by decide +kernel) (by decide +kernel)), tyX9_ok, nmX9, rfl, by decide +kernel⟩
theorem dX9_routine_0 : decode cX9_routine 0 = .ok (.aload_n 0, 1) := by decide +kernel
theorem dX9_routine_1 : decode cX9_routine 1 = .ok (.iconst 0, 1) := by decide +kernel
theorem dX9_routine_2 : decode cX9_routine 2 = .ok (.putfield 153, 3) := by decide +kernel
theorem dX9_routine_5 : decode cX9_routine 5 = .ok (.aload_n 0, 1) := by decide +kernel
theorem dX9_routine_6 : decode cX9_routine 6 = .ok (.getfield 157, 3) := by decide +kernel
theorem dX9_routine_9 : decode cX9_routine 9 = .ok (.bipush 8, 2) := by decide +kernel
theorem dX9_routine_11 : decode cX9_routine 11 = .ok (.if_icmp .ne 5, 3) := by decide +kernel
theorem dX9_routine_14 : decode cX9_routine 14 = .ok (.iconst (-1), 1) := by decide +kernel
theorem dX9_routine_15 : decode cX9_routine 15 = .ok (.ireturn, 1) := by decide +kernel
theorem dX9_routine_16 : decode cX9_routine 16 = .ok (.aload_n 0, 1) := by decide +kernel
theorem dX9_routine_17 : decode cX9_routine 17 = .ok (.dup, 1) := by decide +kernel
theorem dX9_routine_18 : decode cX9_routine 18 = .ok (.getfield 157, 3) := by decide +kernel
theorem dX9_routine_21 : decode cX9_routine 21 = .ok (.iconst 1, 1) := by decide +kernel
theorem dX9_routine_22 : decode cX9_routine 22 = .ok (.iadd, 1) := by decide +kernel
theorem dX9_routine_23 : decode cX9_routine 23 = .ok (.putfield 157, 3) := by decide +kernel
theorem dX9_routine_26 : decode cX9_routine 26 = .ok (.aload_n 0, 1) := by decide +kernel
theorem dX9_routine_27 : decode cX9_routine 27 = .ok (.getfield 157, 3) := by decide +kernel
theorem dX9_routine_30 : decode cX9_routine 30 = .ok (.iconst 1, 1) := by decide +kernel
theorem dX9_routine_31 : decode cX9_routine 31 = .ok (.isub, 1) := by decide +kernel
theorem dX9_routine_32 : decode cX9_routine 32 = .ok (.ireturn, 1) := by decide +kernel
def f_X9_routine (H : Hp) : Option (Int32 × Hp) := hl (sI H 0 0 34 0) (fun (H1 : Hp) => if (gI H1 0 0 0) = 8 then some ((-1), H1) else hl (sI H1 0 0 0 ((gI H1 0 0 0) + 1)) (fun (H3 : Hp) => some (((gI H3 0 0 0) - 1), H3)))
set_option maxRecDepth 100000 in
set_option maxHeartbeats 4000000 in
theorem s_X9_routine {p : Program} {l : Launch} {e : Env} {s : State} {m : MethodId} {args : Array Value} {below : List Frame} {meth : Method} {c : Code} {A : Nat → Prop} {D : va_G} {K4 : kQ} {ad : Nat → Nat → Nat} {nr : Nat} {H : Hp} {res : Int32 × Hp} (hC : Cx p s m args c A s.heap D K4 1 RX9 cX9_routine) (hret : meth.sig.returnType = (some .int) ∧ meth.locks = false) (h : f_X9_routine H = some res) : V p l e ({ frames := 0, cells := 0, slots := 0, locals := 0 }) s m args below meth c A s.heap (QI below args s A D K4 ad nr res) D K4 ad nr 1 0 [(0, .ref (ad 0 0))] [] H := by
  unfold f_X9_routine at h
  refine V_aload_n hC 0 dX9_routine_0 rfl ?_
  refine V_iconst (v := 0) hC dX9_routine_1 (by decide) ?_
  refine V_putI (g := 0) (k := 0) hC 9 34 .int fw_X9_153 rfl rfl rfl rfl rfl dX9_routine_2 ?_
  refine V_hl h (fun H1 h => ?_)
  refine V_aload_n hC 0 dX9_routine_5 rfl ?_
  refine V_getI (g := 0) (k := 0) hC 9 0 fl_X9_157 rfl rfl rfl dX9_routine_6 ?_
  refine V_bipush (v := 8) hC dX9_routine_9 (by decide) ?_
  refine V_icmp_ne (tgt := 16) hC dX9_routine_11 (by decide) (fun c2 => ?_) (fun c2 => ?_)
  · have h := it_neg c2 h
    refine V_aload_n hC 0 dX9_routine_16 rfl ?_
    refine V_dup hC dX9_routine_17 rfl ?_
    refine V_getI (g := 0) (k := 0) hC 9 0 fl_X9_157 rfl rfl rfl dX9_routine_18 ?_
    refine V_iconst (v := 1) hC dX9_routine_21 (by decide) ?_
    refine V_iadd hC dX9_routine_22 ?_
    refine V_putI (g := 0) (k := 0) hC 9 0 .int fw_X9_157 rfl rfl rfl rfl rfl dX9_routine_23 ?_
    refine V_hl h (fun H3 h => ?_)
    refine V_aload_n hC 0 dX9_routine_26 rfl ?_
    refine V_getI (g := 0) (k := 0) hC 9 0 fl_X9_157 rfl rfl rfl dX9_routine_27 ?_
    refine V_iconst (v := 1) hC dX9_routine_30 (by decide) ?_
    refine V_isub hC dX9_routine_31 ?_
    exact V_iret hC hret dX9_routine_32 h
  · have h := it_pos c2 h
    refine V_iconst (v := -1) hC dX9_routine_14 (by decide) ?_
    exact V_iret hC hret dX9_routine_15 h
theorem c_X9_routine (l : Launch) {nr : Nat} {H : Hp} {x : Int32} {H' : Hp} (h : f_X9_routine H = some (x, H')) : CI l nr yX9_routine cX9_routine 1 (some .int) 0 0 (fun ad => [.ref (ad 0 0)]) H x H' := by
  intro D K4 ad sz
  refine Met.ofV (by decide) (Nat.le_of_ble_eq_true rfl) ?_
  intro p e s m args below meth c hC hret hsz
  subst hsz
  exact s_X9_routine hC hret h
theorem ch_X9_routine  {H0 H : Hp} {res : Int32 × Hp} (q : Ch (fun _ => true) [(0, 0, some 0), (0, 0, some 34)] H0 H) (h : f_X9_routine H = some res) : Ch (fun _ => true) [(0, 0, some 0), (0, 0, some 34)] H0 res.2 := by
  unfold f_X9_routine at h
  replace h := hl_c (P := Ch (fun _ => true) [(0, 0, some 0), (0, 0, some 34)] H0) (Ch.sI rfl rfl q) h
  clear q
  obtain ⟨H1, q, h⟩ := h
  replace h := it_c h
  rcases h with h | h
  · cases h
    exact q
  · replace h := hl_c (P := Ch (fun _ => true) [(0, 0, some 0), (0, 0, some 34)] H0) (Ch.sI rfl rfl q) h
    clear q
    obtain ⟨H3, q, h⟩ := h
    cases h
    exact q
theorem gb_X9_routine {nr : Nat}  {H : Hp} {res : Int32 × Hp} (q : GB nr H) (h : f_X9_routine H = some res) : GB nr res.2 := by
  unfold f_X9_routine at h
  replace h := hl_c (P := GB nr) (GB.sI q) h
  clear q
  obtain ⟨H1, q, h⟩ := h
  replace h := it_c h
  rcases h with h | h
  · cases h
    exact q
  · replace h := hl_c (P := GB nr) (GB.sI q) h
    clear q
    obtain ⟨H3, q, h⟩ := h
    cases h
    exact q
