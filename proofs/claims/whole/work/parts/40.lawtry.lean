theorem Met.ofWH {l : Launch} {y : MethodName} {ws ws' : List Cond} {rm : Room} {Pc : Array Value → State → Prop} {Qc : Array Value → State → Outcome → State → Prop} {mc ms : Nat} {free : Addr → Prop} {cc : ByteArray} {maxL : Nat} {ret : Option FieldType} {hh : List (Nat × Nat × Nat × Nat)}
    (hy : plainName y.cls = true) (hw : ws = Cond.codeWith y cc maxL ret hh :: ws')
    (body : ∀ p e s m args below meth c s₁, BodyLoose p l y (headSpec ws rm) cc maxL ret e s m args below meth c s₁ → c.maxLocals = maxL → Pc args s →
      W p l e (headSpec ws rm).room s m args below meth c s.heap [] 0 0 (MQ below Qc args s mc ms free) (entryFrame m args maxL)) : Met l y ws rm Pc Qc mc ms free := by
  have h := vx_ofWH (l := l) (y := y) (ws := ws) (rm := rm) (Pc := Pc) (Qc := Qc) (XC := fun _ _ _ => False) (mc := mc) (ms := ms) (free := free) hy hw (fun p e s m args below meth c s₁ B hml hp => vx_ret (body p e s m args below meth c s₁ B hml hp))
  refine MetFree.mono h (fun _ _ q => q) (fun _ _ _ _ _ q => q) ?_
  intro a st oc t _ hq
  rcases hq with hq | ⟨q, -, E, ce, L, hf, -⟩
  · exact hq
  · exact hf.elim
def LPr (A : Nat → Prop) (U : State) (H : Heap) : Prop := XPr A U H ∧ va_Nc (xn 2) (xn 1) U
theorem lk_x13 : Cond.classLink RL 13 (xn 1) ∈ GW := gall (ws := [Cond.classLink RL 13 (xn 1)]) (by decide +kernel) (by decide +kernel) _ (List.mem_cons_self)
theorem lk_x15 : Cond.classLink RL 15 (xn 2) ∈ GW := gall (ws := [Cond.classLink RL 15 (xn 2)]) (by decide +kernel) (by decide +kernel) _ (List.mem_cons_self)
theorem ca_x1 : Cond.castable (xn 1) (xn 1) ∈ XW := List.mem_filter.mpr ⟨by decide +kernel, rfl⟩
theorem ca_x2 : Cond.castable (xn 2) (xn 2) ∈ XW := List.mem_filter.mpr ⟨by decide +kernel, rfl⟩
theorem ML.cwX {R : Room} {s : State} {args : Array Value} {own : String} {idx : Nat} {y : MethodName} {cy : ByteArray} {ny : Nat} {rt : Option FieldType} {ci n fr lc mc ms : Nat} (h : ML own idx y cy ny rt ci n) (ht : ∀ w ∈ GW, w.before args s = true) (hR : fr + 1 ≤ R.frames ∧ 8 + (ny + 11) + lc ≤ R.locals) : CallW R s args own y.cls idx y cy ny rt (.code y cy ny rt :: GW) ({ frames := fr, cells := mc, slots := ms, locals := lc }) mc ms n := by
  refine cwV n ht (gsub ?_) rfl rfl rfl ⟨rfl, h.2.2⟩ hR
  intro w hw
  rcases List.mem_append.mp hw with q | q
  · exact h.2.1 w (by simp only [List.mem_cons, List.not_mem_nil, or_false] at q ⊢; rcases q with q | q | q | q <;> simp [q])
  · rcases List.mem_cons.mp q with q | q
    · exact h.2.1 w (by simp [q])
    · exact q
theorem dL_look_0 : decode cL_look 0 = .ok (.aload_n 3, 1) := by decide +kernel
theorem dL_look_1 : decode cL_look 1 = .ok (.iconst 0, 1) := by decide +kernel
theorem dL_look_2 : decode cL_look 2 = .ok (.aload_n 0, 1) := by decide +kernel
theorem dL_look_3 : decode cL_look 3 = .ok (.iload_n 1, 1) := by decide +kernel
theorem dL_look_4 : decode cL_look 4 = .ok (.iload_n 2, 1) := by decide +kernel
theorem dL_look_5 : decode cL_look 5 = .ok (.invokevirtual 7, 3) := by decide +kernel
theorem dL_look_8 : decode cL_look 8 = .ok (.lastore, 1) := by decide +kernel
theorem dL_look_9 : decode cL_look 9 = .ok (.goto 11, 3) := by decide +kernel
theorem dL_look_12 : decode cL_look 12 = .ok (.astore 4, 2) := by decide +kernel
theorem dL_look_14 : decode cL_look 14 = .ok (.iconst 1, 1) := by decide +kernel
theorem dL_look_15 : decode cL_look 15 = .ok (.ireturn, 1) := by decide +kernel
theorem dL_look_16 : decode cL_look 16 = .ok (.astore 4, 2) := by decide +kernel
theorem dL_look_18 : decode cL_look 18 = .ok (.iconst 2, 1) := by decide +kernel
theorem dL_look_19 : decode cL_look 19 = .ok (.ireturn, 1) := by decide +kernel
theorem dL_look_20 : decode cL_look 20 = .ok (.iconst 0, 1) := by decide +kernel
theorem dL_look_21 : decode cL_look 21 = .ok (.ireturn, 1) := by decide +kernel
theorem ml_L_look : ML RL 7 yX8_look cX8_look 4 (some .long) 8 2 := ⟨⟨TX8, 4, rfl⟩, gall (by decide +kernel) (by decide +kernel), by decide +kernel, by decide +kernel, by decide +kernel⟩
set_option maxRecDepth 100000 in
set_option maxHeartbeats 4000000 in
theorem w_L_look_0 (l : Launch) {nr : Nat} {a1 : Int32} {a2 : Int32} {H : Hp} {x : Int64} {H1 : Hp} (h : f_X8_look nr a1 a2 H = some (x, H1)) (D : va_G) (K4 : kQ) (ad : Nat → Nat → Nat) (sz : Nat) : Met l yL_look (.codeWith yL_look cL_look 5 (some .int) [(0, 9, 12, 13), (0, 9, 16, 15)] :: GW) ({ frames := 7, cells := 0, slots := 0, locals := 105 }) (va_Pc [.ref (ad 1 0), .int a1, .int a2, .ref (ad 1 11)] (fun U => PcB D K4 ad nr H sz U ∧ LPr (va_A (wl K4 ad nr H) sz) U U.heap)) (va_Qi (fun q u => q = 0 ∧ u = sJ H1 1 11 0 x) (Bw D K4 ad nr (va_A (wl K4 ad nr H) sz)) (va_A (wl K4 ad nr H) sz)) 0 0 (va_A (wl K4 ad nr H) sz) := by
  refine Met.ofWH (cc := cL_look) (maxL := 5) (ret := some .int) (hh := [(0, 9, 12, 13), (0, 9, 16, 15)]) (by decide) rfl ?_
  intro p e s m args below meth c s₁ B hml hv
  obtain ⟨rfl, ⟨rfl, hP, hK, hN, hD⟩, hX⟩ := hv
  have hts := atoms_spec (ws := (.codeWith yL_look cL_look 5 (some .int) [(0, 9, 12, 13), (0, 9, 16, 15)] :: GW)) B.pre
  have hown : s.vm.findClass RL = some m.cls := findClass_of_methodNamed B.named
  have htab := vx_table (x := yL_look) B (hts _ List.mem_cons_self)
  have hls := lv_entry [.ref (ad 1 0), .int a1, .int a2, .ref (ad 1 11)] (n := 5) (Nat.le_of_ble_eq_true rfl)
  rw [lg_entry_eq]
  have hC : Cx p s m ([.ref (ad 1 0), .int a1, .int a2, .ref (ad 1 11)] : List Value).toArray c (va_A (wl K4 ad nr H) s.heap.size) s.heap D K4 5 RL cL_look := ⟨B.exec, B.bytes, hml, hown, fun w hw => hts w (List.mem_cons_of_mem _ hw), hK, hN, fun q h => Or.inr h⟩
  have hret : meth.sig.returnType = some .int ∧ meth.locks = false := ⟨B.returns, B.notSynchronized⟩
  generalize ([.ref (ad 1 0), .int a1, .int a2, .ref (ad 1 11)] : List Value).toArray = args at hC ⊢
  suffices hV : V p l e ({ frames := 7, cells := 0, slots := 0, locals := 105 }) s m args below meth c (va_A (wl K4 ad nr H) s.heap.size) s.heap (MQ below (va_Qi (fun q u => q = 0 ∧ u = sJ H1 1 11 0 x) (Bw D K4 ad nr (va_A (wl K4 ad nr H) s.heap.size)) (va_A (wl K4 ad nr H) s.heap.size)) args s 0 0 (va_A (wl K4 ad nr H) s.heap.size)) D K4 ad nr 5 0 [(0, .ref (ad 1 0)), (1, .int a1), (2, .int a2), (3, .ref (ad 1 11))] [] H by
    exact hV s.heap [] _ hP hD.self va_S.rf hls
  refine V_aload_n hC 3 dL_look_0 rfl ?_
  refine V_iconst (v := 0) hC dL_look_1 (by decide) ?_
  refine V_aload_n hC 0 dL_look_2 rfl ?_
  refine V_iload_n hC 1 dL_look_3 rfl ?_
  refine V_iload_n hC 2 dL_look_4 rfl ?_
  refine V_calll (g := 1) (k := 0) (As := [.int a1, .int a2]) (st := [.int 0, .ref (ad 1 11)]) hC (c_X8_look l h) rfl ml_L_look ⟨Nat.le_of_ble_eq_true rfl, Nat.le_of_ble_eq_true rfl⟩ rfl rfl rfl (Nat.le_of_ble_eq_true rfl) dL_look_5 ?_
  refine V_last (g := 1) (k := 11) hC rfl rfl (show vp_in (nI 0) 1 from vp_in_nI (by decide) (by decide)) dL_look_8 ?_
  refine V_goto (tgt := 20) hC dL_look_9 (by decide) ?_
  refine V_iconst (v := 0) hC dL_look_20 (by decide) ?_
  exact V_ireta (cs := 0) (sl := 0) hC (sJ H1 1 11 0 x) hret dL_look_21 ⟨rfl, rfl⟩ (fun t a b => ⟨a, b⟩)
set_option maxRecDepth 100000 in
set_option maxHeartbeats 4000000 in
theorem w_L_look_1 (l : Launch) (hl : l.stackTraces = false) {nr : Nat} {a1 : Int32} {a2 : Int32} {H H1 : Hp} (h : f_X8_look_t nr a1 a2 H = some (1, H1)) (D : va_G) (K4 : kQ) (ad : Nat → Nat → Nat) (sz : Nat) : Met l yL_look (.codeWith yL_look cL_look 5 (some .int) [(0, 9, 12, 13), (0, 9, 16, 15)] :: GW) ({ frames := 7, cells := 1, slots := 6, locals := 105 }) (va_Pc [.ref (ad 1 0), .int a1, .int a2, .ref (ad 1 11)] (fun U => PcB D K4 ad nr H sz U ∧ LPr (va_A (wl K4 ad nr H) sz) U U.heap)) (va_Qi (fun q u => q = 1 ∧ u = H1) (Bw D K4 ad nr (va_A (wl K4 ad nr H) sz)) (va_A (wl K4 ad nr H) sz)) 1 6 (va_A (wl K4 ad nr H) sz) := by
  refine Met.ofWH (cc := cL_look) (maxL := 5) (ret := some .int) (hh := [(0, 9, 12, 13), (0, 9, 16, 15)]) (by decide) rfl ?_
  intro p e s m args below meth c s₁ B hml hv
  obtain ⟨rfl, ⟨rfl, hP, hK, hN, hD⟩, hX⟩ := hv
  have hts := atoms_spec (ws := (.codeWith yL_look cL_look 5 (some .int) [(0, 9, 12, 13), (0, 9, 16, 15)] :: GW)) B.pre
  have hown : s.vm.findClass RL = some m.cls := findClass_of_methodNamed B.named
  have htab := vx_table (x := yL_look) B (hts _ List.mem_cons_self)
  have hls := lv_entry [.ref (ad 1 0), .int a1, .int a2, .ref (ad 1 11)] (n := 5) (Nat.le_of_ble_eq_true rfl)
  rw [lg_entry_eq]
  have hC : Cx p s m ([.ref (ad 1 0), .int a1, .int a2, .ref (ad 1 11)] : List Value).toArray c (va_A (wl K4 ad nr H) s.heap.size) s.heap D K4 5 RL cL_look := ⟨B.exec, B.bytes, hml, hown, fun w hw => hts w (List.mem_cons_of_mem _ hw), hK, hN, fun q h => Or.inr h⟩
  have hret : meth.sig.returnType = some .int ∧ meth.locks = false := ⟨B.returns, B.notSynchronized⟩
  generalize ([.ref (ad 1 0), .int a1, .int a2, .ref (ad 1 11)] : List Value).toArray = args at hC ⊢
  suffices hV : V p l e ({ frames := 7, cells := 1, slots := 6, locals := 105 }) s m args below meth c (va_A (wl K4 ad nr H) s.heap.size) s.heap (MQ below (va_Qi (fun q u => q = 1 ∧ u = H1) (Bw D K4 ad nr (va_A (wl K4 ad nr H) s.heap.size)) (va_A (wl K4 ad nr H) s.heap.size)) args s 1 6 (va_A (wl K4 ad nr H) s.heap.size)) D K4 ad nr 5 0 [(0, .ref (ad 1 0)), (1, .int a1), (2, .int a2), (3, .ref (ad 1 11))] [] H by
    exact hV s.heap [] _ hP hD.self va_S.rf hls
  refine V_aload_n hC 3 dL_look_0 rfl ?_
  refine V_iconst (v := 0) hC dL_look_1 (by decide) ?_
  refine V_aload_n hC 0 dL_look_2 rfl ?_
  refine V_iload_n hC 1 dL_look_3 rfl ?_
  refine V_iload_n hC 2 dL_look_4 rfl ?_
  intro Hh locs ls hP hD hS hls
  have hf := V_free (ad := ad) (nr := nr) (H := H) hC hD hS
  obtain ⟨q0, hq, -⟩ := wl_get (K4 := K4) (ad := ad) (H := H) (nr := nr) (g := 1) (k := 0) rfl
  have hc : cel K4 ad H 1 0 = .inr (8, fls ad H 1 0 8) := rfl
  rw [hc] at hq
  have hblind : FrameBlind (va_Pc (.ref (ad 1 0) :: [.int a1, .int a2]) (fun U => PcB D K4 ad nr H Hh.size U ∧ XPr (va_A (wl K4 ad nr H) Hh.size) U U.heap)) := by
    intro a U g mk q
    obtain ⟨q0, q1, q2⟩ := q
    exact ⟨q0, (PcW_blind D K4 ad nr H Hh.size _ a U g mk ⟨q0, q1⟩).2, q2.warm (U := U.calling g mk a) (State.WarmedH.refl U) (fun _ _ _ => rfl) (fun _ h => h)⟩
  refine vx_calll (vx_runV (As := [.int a1, .int a2]) (rest := [.int 0, .ref (ad 1 11)]) ⟨hC.1, hC.2.1, hC.2.2.1, hC.2.2.2.1, hC.2.2.2.2.1⟩ (t_X8_look_t l hl h D K4 ad Hh.size) (ml_L_look.cwX hC.2.2.2.2.1 ⟨Nat.le_of_ble_eq_true rfl, Nat.le_of_ble_eq_true rfl⟩) ⟨hblind, va_recv hC.2.2.2.2.2.1 hP (ci := 8) (q0 := q0) rfl hq, fun U hU hW2 => ⟨rfl, V_pre hC hP hD U hU hW2, by rw [hU]; exact hX.1.warm hW2 hS.2.1 hf⟩⟩ rfl rfl hls.1 rfl (lv_room (Nat.le_of_ble_eq_true rfl)) dL_look_5 ⟨Nat.le_of_ble_eq_true rfl, Nat.le_of_ble_eq_true rfl⟩) hS (fun q _ h => hf q h) hf (fun q _ h => hf q h) (fun E ce q9 u t H2 locs1 ht hvm _ hB hz1 hk1 hS1 hce hcv hcc => ?_) (fun r u t H2 locs1 ht hvm hw _ _ _ _ => hw.elim)
  obtain ⟨rfl, hP1, hD1⟩ := hB
  rw [ht] at hP1

  refine vx_catch hown [] ⟨0, 9, 12, 13⟩ [⟨0, 9, 16, 15⟩] htab (fun z hz => by cases hz) rfl (by decide) (hC.2.2.2.2.1 _ lk_x13) (va_Nw.use (A := args) (xw_on rfl) (hX.1.1 _ ca_x1)) hce hcv hcc ?_
  refine lv_astore (lv' := _) hC.1 hC.2.1 dL_look_12 hls (by decide) rfl (fun ls2 hl2 => ?_)
  refine lv_iconst (v := 1) hC.1 hC.2.1 dL_look_14 (by decide) ?_
  have hlocks := hret.2
  exact W.iret hC.1 hC.2.1 hret.1 (fun t2 ht2 _ => ⟨⟨1, H1, rfl, ⟨rfl, rfl⟩, by rw [ht2]; exact hP1, hD1.weaken (fun _ q _ h => hf q.1 h)⟩, hS1.F ht2⟩) hS1.2.2 dL_look_15
set_option maxRecDepth 100000 in
set_option maxHeartbeats 4000000 in
theorem w_L_look_2 (l : Launch) (hl : l.stackTraces = false) {nr : Nat} {a1 : Int32} {a2 : Int32} {H H1 : Hp} (h : f_X8_look_t nr a1 a2 H = some (2, H1)) (D : va_G) (K4 : kQ) (ad : Nat → Nat → Nat) (sz : Nat) : Met l yL_look (.codeWith yL_look cL_look 5 (some .int) [(0, 9, 12, 13), (0, 9, 16, 15)] :: GW) ({ frames := 7, cells := 1, slots := 6, locals := 105 }) (va_Pc [.ref (ad 1 0), .int a1, .int a2, .ref (ad 1 11)] (fun U => PcB D K4 ad nr H sz U ∧ LPr (va_A (wl K4 ad nr H) sz) U U.heap)) (va_Qi (fun q u => q = 2 ∧ u = H1) (Bw D K4 ad nr (va_A (wl K4 ad nr H) sz)) (va_A (wl K4 ad nr H) sz)) 1 6 (va_A (wl K4 ad nr H) sz) := by
  refine Met.ofWH (cc := cL_look) (maxL := 5) (ret := some .int) (hh := [(0, 9, 12, 13), (0, 9, 16, 15)]) (by decide) rfl ?_
  intro p e s m args below meth c s₁ B hml hv
  obtain ⟨rfl, ⟨rfl, hP, hK, hN, hD⟩, hX⟩ := hv
  have hts := atoms_spec (ws := (.codeWith yL_look cL_look 5 (some .int) [(0, 9, 12, 13), (0, 9, 16, 15)] :: GW)) B.pre
  have hown : s.vm.findClass RL = some m.cls := findClass_of_methodNamed B.named
  have htab := vx_table (x := yL_look) B (hts _ List.mem_cons_self)
  have hls := lv_entry [.ref (ad 1 0), .int a1, .int a2, .ref (ad 1 11)] (n := 5) (Nat.le_of_ble_eq_true rfl)
  rw [lg_entry_eq]
  have hC : Cx p s m ([.ref (ad 1 0), .int a1, .int a2, .ref (ad 1 11)] : List Value).toArray c (va_A (wl K4 ad nr H) s.heap.size) s.heap D K4 5 RL cL_look := ⟨B.exec, B.bytes, hml, hown, fun w hw => hts w (List.mem_cons_of_mem _ hw), hK, hN, fun q h => Or.inr h⟩
  have hret : meth.sig.returnType = some .int ∧ meth.locks = false := ⟨B.returns, B.notSynchronized⟩
  generalize ([.ref (ad 1 0), .int a1, .int a2, .ref (ad 1 11)] : List Value).toArray = args at hC ⊢
  suffices hV : V p l e ({ frames := 7, cells := 1, slots := 6, locals := 105 }) s m args below meth c (va_A (wl K4 ad nr H) s.heap.size) s.heap (MQ below (va_Qi (fun q u => q = 2 ∧ u = H1) (Bw D K4 ad nr (va_A (wl K4 ad nr H) s.heap.size)) (va_A (wl K4 ad nr H) s.heap.size)) args s 1 6 (va_A (wl K4 ad nr H) s.heap.size)) D K4 ad nr 5 0 [(0, .ref (ad 1 0)), (1, .int a1), (2, .int a2), (3, .ref (ad 1 11))] [] H by
    exact hV s.heap [] _ hP hD.self va_S.rf hls
  refine V_aload_n hC 3 dL_look_0 rfl ?_
  refine V_iconst (v := 0) hC dL_look_1 (by decide) ?_
  refine V_aload_n hC 0 dL_look_2 rfl ?_
  refine V_iload_n hC 1 dL_look_3 rfl ?_
  refine V_iload_n hC 2 dL_look_4 rfl ?_
  intro Hh locs ls hP hD hS hls
  have hf := V_free (ad := ad) (nr := nr) (H := H) hC hD hS
  obtain ⟨q0, hq, -⟩ := wl_get (K4 := K4) (ad := ad) (H := H) (nr := nr) (g := 1) (k := 0) rfl
  have hc : cel K4 ad H 1 0 = .inr (8, fls ad H 1 0 8) := rfl
  rw [hc] at hq
  have hblind : FrameBlind (va_Pc (.ref (ad 1 0) :: [.int a1, .int a2]) (fun U => PcB D K4 ad nr H Hh.size U ∧ XPr (va_A (wl K4 ad nr H) Hh.size) U U.heap)) := by
    intro a U g mk q
    obtain ⟨q0, q1, q2⟩ := q
    exact ⟨q0, (PcW_blind D K4 ad nr H Hh.size _ a U g mk ⟨q0, q1⟩).2, q2.warm (U := U.calling g mk a) (State.WarmedH.refl U) (fun _ _ _ => rfl) (fun _ h => h)⟩
  refine vx_calll (vx_runV (As := [.int a1, .int a2]) (rest := [.int 0, .ref (ad 1 11)]) ⟨hC.1, hC.2.1, hC.2.2.1, hC.2.2.2.1, hC.2.2.2.2.1⟩ (t_X8_look_t l hl h D K4 ad Hh.size) (ml_L_look.cwX hC.2.2.2.2.1 ⟨Nat.le_of_ble_eq_true rfl, Nat.le_of_ble_eq_true rfl⟩) ⟨hblind, va_recv hC.2.2.2.2.2.1 hP (ci := 8) (q0 := q0) rfl hq, fun U hU hW2 => ⟨rfl, V_pre hC hP hD U hU hW2, by rw [hU]; exact hX.1.warm hW2 hS.2.1 hf⟩⟩ rfl rfl hls.1 rfl (lv_room (Nat.le_of_ble_eq_true rfl)) dL_look_5 ⟨Nat.le_of_ble_eq_true rfl, Nat.le_of_ble_eq_true rfl⟩) hS (fun q _ h => hf q h) hf (fun q _ h => hf q h) (fun E ce q9 u t H2 locs1 ht hvm _ hB hz1 hk1 hS1 hce hcv hcc => ?_) (fun r u t H2 locs1 ht hvm hw _ _ _ _ => hw.elim)
  obtain ⟨rfl, hP1, hD1⟩ := hB
  rw [ht] at hP1

  refine vx_catch hown [⟨0, 9, 12, 13⟩] ⟨0, 9, 16, 15⟩ [] htab (fun z hz => by cases List.mem_singleton.mp hz; exact Or.inr ⟨by decide, xn 1, hC.2.2.2.2.1 _ lk_x13, hX.2⟩) rfl (by decide) (hC.2.2.2.2.1 _ lk_x15) (va_Nw.use (A := args) (xw_on rfl) (hX.1.1 _ ca_x2)) hce hcv hcc ?_
  refine lv_astore (lv' := _) hC.1 hC.2.1 dL_look_16 hls (by decide) rfl (fun ls2 hl2 => ?_)
  refine lv_iconst (v := 2) hC.1 hC.2.1 dL_look_18 (by decide) ?_
  have hlocks := hret.2
  exact W.iret hC.1 hC.2.1 hret.1 (fun t2 ht2 _ => ⟨⟨2, H1, rfl, ⟨rfl, rfl⟩, by rw [ht2]; exact hP1, hD1.weaken (fun _ q _ h => hf q.1 h)⟩, hS1.F ht2⟩) hS1.2.2 dL_look_19
theorem dL_ofEdge_0 : decode cL_ofEdge 0 = .ok (.aload 4, 2) := by decide +kernel
theorem dL_ofEdge_2 : decode cL_ofEdge 2 = .ok (.iconst 0, 1) := by decide +kernel
theorem dL_ofEdge_3 : decode cL_ofEdge 3 = .ok (.aload_n 0, 1) := by decide +kernel
theorem dL_ofEdge_4 : decode cL_ofEdge 4 = .ok (.iload_n 1, 1) := by decide +kernel
theorem dL_ofEdge_5 : decode cL_ofEdge 5 = .ok (.iload_n 2, 1) := by decide +kernel
theorem dL_ofEdge_6 : decode cL_ofEdge 6 = .ok (.iload_n 3, 1) := by decide +kernel
theorem dL_ofEdge_7 : decode cL_ofEdge 7 = .ok (.invokevirtual 17, 3) := by decide +kernel
theorem dL_ofEdge_10 : decode cL_ofEdge 10 = .ok (.lastore, 1) := by decide +kernel
theorem dL_ofEdge_11 : decode cL_ofEdge 11 = .ok (.goto 11, 3) := by decide +kernel
theorem dL_ofEdge_14 : decode cL_ofEdge 14 = .ok (.astore 5, 2) := by decide +kernel
theorem dL_ofEdge_16 : decode cL_ofEdge 16 = .ok (.iconst 1, 1) := by decide +kernel
theorem dL_ofEdge_17 : decode cL_ofEdge 17 = .ok (.ireturn, 1) := by decide +kernel
theorem dL_ofEdge_18 : decode cL_ofEdge 18 = .ok (.astore 5, 2) := by decide +kernel
theorem dL_ofEdge_20 : decode cL_ofEdge 20 = .ok (.iconst 2, 1) := by decide +kernel
theorem dL_ofEdge_21 : decode cL_ofEdge 21 = .ok (.ireturn, 1) := by decide +kernel
theorem dL_ofEdge_22 : decode cL_ofEdge 22 = .ok (.iconst 0, 1) := by decide +kernel
theorem dL_ofEdge_23 : decode cL_ofEdge 23 = .ok (.ireturn, 1) := by decide +kernel
theorem ml_L_ofEdge : ML RL 17 yX8_ofEdge cX8_ofEdge 5 (some .long) 8 3 := ⟨⟨TX8, 4, rfl⟩, gall (by decide +kernel) (by decide +kernel), by decide +kernel, by decide +kernel, by decide +kernel⟩
set_option maxRecDepth 100000 in
set_option maxHeartbeats 4000000 in
theorem w_L_ofEdge_0 (l : Launch) {nr : Nat} {a1 : Int32} {a2 : Int32} {a3 : Int32} {H : Hp} {x : Int64} {H1 : Hp} (h : f_X8_ofEdge nr a1 a2 a3 H = some (x, H1)) (D : va_G) (K4 : kQ) (ad : Nat → Nat → Nat) (sz : Nat) : Met l yL_ofEdge (.codeWith yL_ofEdge cL_ofEdge 6 (some .int) [(0, 11, 14, 13), (0, 11, 18, 15)] :: GW) ({ frames := 7, cells := 0, slots := 0, locals := 106 }) (va_Pc [.ref (ad 1 0), .int a1, .int a2, .int a3, .ref (ad 1 11)] (fun U => PcB D K4 ad nr H sz U ∧ LPr (va_A (wl K4 ad nr H) sz) U U.heap)) (va_Qi (fun q u => q = 0 ∧ u = sJ H1 1 11 0 x) (Bw D K4 ad nr (va_A (wl K4 ad nr H) sz)) (va_A (wl K4 ad nr H) sz)) 0 0 (va_A (wl K4 ad nr H) sz) := by
  refine Met.ofWH (cc := cL_ofEdge) (maxL := 6) (ret := some .int) (hh := [(0, 11, 14, 13), (0, 11, 18, 15)]) (by decide) rfl ?_
  intro p e s m args below meth c s₁ B hml hv
  obtain ⟨rfl, ⟨rfl, hP, hK, hN, hD⟩, hX⟩ := hv
  have hts := atoms_spec (ws := (.codeWith yL_ofEdge cL_ofEdge 6 (some .int) [(0, 11, 14, 13), (0, 11, 18, 15)] :: GW)) B.pre
  have hown : s.vm.findClass RL = some m.cls := findClass_of_methodNamed B.named
  have htab := vx_table (x := yL_ofEdge) B (hts _ List.mem_cons_self)
  have hls := lv_entry [.ref (ad 1 0), .int a1, .int a2, .int a3, .ref (ad 1 11)] (n := 6) (Nat.le_of_ble_eq_true rfl)
  rw [lg_entry_eq]
  have hC : Cx p s m ([.ref (ad 1 0), .int a1, .int a2, .int a3, .ref (ad 1 11)] : List Value).toArray c (va_A (wl K4 ad nr H) s.heap.size) s.heap D K4 6 RL cL_ofEdge := ⟨B.exec, B.bytes, hml, hown, fun w hw => hts w (List.mem_cons_of_mem _ hw), hK, hN, fun q h => Or.inr h⟩
  have hret : meth.sig.returnType = some .int ∧ meth.locks = false := ⟨B.returns, B.notSynchronized⟩
  generalize ([.ref (ad 1 0), .int a1, .int a2, .int a3, .ref (ad 1 11)] : List Value).toArray = args at hC ⊢
  suffices hV : V p l e ({ frames := 7, cells := 0, slots := 0, locals := 106 }) s m args below meth c (va_A (wl K4 ad nr H) s.heap.size) s.heap (MQ below (va_Qi (fun q u => q = 0 ∧ u = sJ H1 1 11 0 x) (Bw D K4 ad nr (va_A (wl K4 ad nr H) s.heap.size)) (va_A (wl K4 ad nr H) s.heap.size)) args s 0 0 (va_A (wl K4 ad nr H) s.heap.size)) D K4 ad nr 6 0 [(0, .ref (ad 1 0)), (1, .int a1), (2, .int a2), (3, .int a3), (4, .ref (ad 1 11))] [] H by
    exact hV s.heap [] _ hP hD.self va_S.rf hls
  refine V_aload hC 4 dL_ofEdge_0 rfl ?_
  refine V_iconst (v := 0) hC dL_ofEdge_2 (by decide) ?_
  refine V_aload_n hC 0 dL_ofEdge_3 rfl ?_
  refine V_iload_n hC 1 dL_ofEdge_4 rfl ?_
  refine V_iload_n hC 2 dL_ofEdge_5 rfl ?_
  refine V_iload_n hC 3 dL_ofEdge_6 rfl ?_
  refine V_calll (g := 1) (k := 0) (As := [.int a1, .int a2, .int a3]) (st := [.int 0, .ref (ad 1 11)]) hC (c_X8_ofEdge l h) rfl ml_L_ofEdge ⟨Nat.le_of_ble_eq_true rfl, Nat.le_of_ble_eq_true rfl⟩ rfl rfl rfl (Nat.le_of_ble_eq_true rfl) dL_ofEdge_7 ?_
  refine V_last (g := 1) (k := 11) hC rfl rfl (show vp_in (nI 0) 1 from vp_in_nI (by decide) (by decide)) dL_ofEdge_10 ?_
  refine V_goto (tgt := 22) hC dL_ofEdge_11 (by decide) ?_
  refine V_iconst (v := 0) hC dL_ofEdge_22 (by decide) ?_
  exact V_ireta (cs := 0) (sl := 0) hC (sJ H1 1 11 0 x) hret dL_ofEdge_23 ⟨rfl, rfl⟩ (fun t a b => ⟨a, b⟩)
set_option maxRecDepth 100000 in
set_option maxHeartbeats 4000000 in
theorem w_L_ofEdge_1 (l : Launch) (hl : l.stackTraces = false) {nr : Nat} {a1 : Int32} {a2 : Int32} {a3 : Int32} {H H1 : Hp} (h : f_X8_ofEdge_t nr a1 a2 a3 H = some (1, H1)) (D : va_G) (K4 : kQ) (ad : Nat → Nat → Nat) (sz : Nat) : Met l yL_ofEdge (.codeWith yL_ofEdge cL_ofEdge 6 (some .int) [(0, 11, 14, 13), (0, 11, 18, 15)] :: GW) ({ frames := 7, cells := 1, slots := 6, locals := 106 }) (va_Pc [.ref (ad 1 0), .int a1, .int a2, .int a3, .ref (ad 1 11)] (fun U => PcB D K4 ad nr H sz U ∧ LPr (va_A (wl K4 ad nr H) sz) U U.heap)) (va_Qi (fun q u => q = 1 ∧ u = H1) (Bw D K4 ad nr (va_A (wl K4 ad nr H) sz)) (va_A (wl K4 ad nr H) sz)) 1 6 (va_A (wl K4 ad nr H) sz) := by
  refine Met.ofWH (cc := cL_ofEdge) (maxL := 6) (ret := some .int) (hh := [(0, 11, 14, 13), (0, 11, 18, 15)]) (by decide) rfl ?_
  intro p e s m args below meth c s₁ B hml hv
  obtain ⟨rfl, ⟨rfl, hP, hK, hN, hD⟩, hX⟩ := hv
  have hts := atoms_spec (ws := (.codeWith yL_ofEdge cL_ofEdge 6 (some .int) [(0, 11, 14, 13), (0, 11, 18, 15)] :: GW)) B.pre
  have hown : s.vm.findClass RL = some m.cls := findClass_of_methodNamed B.named
  have htab := vx_table (x := yL_ofEdge) B (hts _ List.mem_cons_self)
  have hls := lv_entry [.ref (ad 1 0), .int a1, .int a2, .int a3, .ref (ad 1 11)] (n := 6) (Nat.le_of_ble_eq_true rfl)
  rw [lg_entry_eq]
  have hC : Cx p s m ([.ref (ad 1 0), .int a1, .int a2, .int a3, .ref (ad 1 11)] : List Value).toArray c (va_A (wl K4 ad nr H) s.heap.size) s.heap D K4 6 RL cL_ofEdge := ⟨B.exec, B.bytes, hml, hown, fun w hw => hts w (List.mem_cons_of_mem _ hw), hK, hN, fun q h => Or.inr h⟩
  have hret : meth.sig.returnType = some .int ∧ meth.locks = false := ⟨B.returns, B.notSynchronized⟩
  generalize ([.ref (ad 1 0), .int a1, .int a2, .int a3, .ref (ad 1 11)] : List Value).toArray = args at hC ⊢
  suffices hV : V p l e ({ frames := 7, cells := 1, slots := 6, locals := 106 }) s m args below meth c (va_A (wl K4 ad nr H) s.heap.size) s.heap (MQ below (va_Qi (fun q u => q = 1 ∧ u = H1) (Bw D K4 ad nr (va_A (wl K4 ad nr H) s.heap.size)) (va_A (wl K4 ad nr H) s.heap.size)) args s 1 6 (va_A (wl K4 ad nr H) s.heap.size)) D K4 ad nr 6 0 [(0, .ref (ad 1 0)), (1, .int a1), (2, .int a2), (3, .int a3), (4, .ref (ad 1 11))] [] H by
    exact hV s.heap [] _ hP hD.self va_S.rf hls
  refine V_aload hC 4 dL_ofEdge_0 rfl ?_
  refine V_iconst (v := 0) hC dL_ofEdge_2 (by decide) ?_
  refine V_aload_n hC 0 dL_ofEdge_3 rfl ?_
  refine V_iload_n hC 1 dL_ofEdge_4 rfl ?_
  refine V_iload_n hC 2 dL_ofEdge_5 rfl ?_
  refine V_iload_n hC 3 dL_ofEdge_6 rfl ?_
  intro Hh locs ls hP hD hS hls
  have hf := V_free (ad := ad) (nr := nr) (H := H) hC hD hS
  obtain ⟨q0, hq, -⟩ := wl_get (K4 := K4) (ad := ad) (H := H) (nr := nr) (g := 1) (k := 0) rfl
  have hc : cel K4 ad H 1 0 = .inr (8, fls ad H 1 0 8) := rfl
  rw [hc] at hq
  have hblind : FrameBlind (va_Pc (.ref (ad 1 0) :: [.int a1, .int a2, .int a3]) (fun U => PcB D K4 ad nr H Hh.size U ∧ XPr (va_A (wl K4 ad nr H) Hh.size) U U.heap)) := by
    intro a U g mk q
    obtain ⟨q0, q1, q2⟩ := q
    exact ⟨q0, (PcW_blind D K4 ad nr H Hh.size _ a U g mk ⟨q0, q1⟩).2, q2.warm (U := U.calling g mk a) (State.WarmedH.refl U) (fun _ _ _ => rfl) (fun _ h => h)⟩
  refine vx_calll (vx_runV (As := [.int a1, .int a2, .int a3]) (rest := [.int 0, .ref (ad 1 11)]) ⟨hC.1, hC.2.1, hC.2.2.1, hC.2.2.2.1, hC.2.2.2.2.1⟩ (t_X8_ofEdge_t l hl h D K4 ad Hh.size) (ml_L_ofEdge.cwX hC.2.2.2.2.1 ⟨Nat.le_of_ble_eq_true rfl, Nat.le_of_ble_eq_true rfl⟩) ⟨hblind, va_recv hC.2.2.2.2.2.1 hP (ci := 8) (q0 := q0) rfl hq, fun U hU hW2 => ⟨rfl, V_pre hC hP hD U hU hW2, by rw [hU]; exact hX.1.warm hW2 hS.2.1 hf⟩⟩ rfl rfl hls.1 rfl (lv_room (Nat.le_of_ble_eq_true rfl)) dL_ofEdge_7 ⟨Nat.le_of_ble_eq_true rfl, Nat.le_of_ble_eq_true rfl⟩) hS (fun q _ h => hf q h) hf (fun q _ h => hf q h) (fun E ce q9 u t H2 locs1 ht hvm _ hB hz1 hk1 hS1 hce hcv hcc => ?_) (fun r u t H2 locs1 ht hvm hw _ _ _ _ => hw.elim)
  obtain ⟨rfl, hP1, hD1⟩ := hB
  rw [ht] at hP1

  refine vx_catch hown [] ⟨0, 11, 14, 13⟩ [⟨0, 11, 18, 15⟩] htab (fun z hz => by cases hz) rfl (by decide) (hC.2.2.2.2.1 _ lk_x13) (va_Nw.use (A := args) (xw_on rfl) (hX.1.1 _ ca_x1)) hce hcv hcc ?_
  refine lv_astore (lv' := _) hC.1 hC.2.1 dL_ofEdge_14 hls (by decide) rfl (fun ls2 hl2 => ?_)
  refine lv_iconst (v := 1) hC.1 hC.2.1 dL_ofEdge_16 (by decide) ?_
  have hlocks := hret.2
  exact W.iret hC.1 hC.2.1 hret.1 (fun t2 ht2 _ => ⟨⟨1, H1, rfl, ⟨rfl, rfl⟩, by rw [ht2]; exact hP1, hD1.weaken (fun _ q _ h => hf q.1 h)⟩, hS1.F ht2⟩) hS1.2.2 dL_ofEdge_17
set_option maxRecDepth 100000 in
set_option maxHeartbeats 4000000 in
theorem w_L_ofEdge_2 (l : Launch) (hl : l.stackTraces = false) {nr : Nat} {a1 : Int32} {a2 : Int32} {a3 : Int32} {H H1 : Hp} (h : f_X8_ofEdge_t nr a1 a2 a3 H = some (2, H1)) (D : va_G) (K4 : kQ) (ad : Nat → Nat → Nat) (sz : Nat) : Met l yL_ofEdge (.codeWith yL_ofEdge cL_ofEdge 6 (some .int) [(0, 11, 14, 13), (0, 11, 18, 15)] :: GW) ({ frames := 7, cells := 1, slots := 6, locals := 106 }) (va_Pc [.ref (ad 1 0), .int a1, .int a2, .int a3, .ref (ad 1 11)] (fun U => PcB D K4 ad nr H sz U ∧ LPr (va_A (wl K4 ad nr H) sz) U U.heap)) (va_Qi (fun q u => q = 2 ∧ u = H1) (Bw D K4 ad nr (va_A (wl K4 ad nr H) sz)) (va_A (wl K4 ad nr H) sz)) 1 6 (va_A (wl K4 ad nr H) sz) := by
  refine Met.ofWH (cc := cL_ofEdge) (maxL := 6) (ret := some .int) (hh := [(0, 11, 14, 13), (0, 11, 18, 15)]) (by decide) rfl ?_
  intro p e s m args below meth c s₁ B hml hv
  obtain ⟨rfl, ⟨rfl, hP, hK, hN, hD⟩, hX⟩ := hv
  have hts := atoms_spec (ws := (.codeWith yL_ofEdge cL_ofEdge 6 (some .int) [(0, 11, 14, 13), (0, 11, 18, 15)] :: GW)) B.pre
  have hown : s.vm.findClass RL = some m.cls := findClass_of_methodNamed B.named
  have htab := vx_table (x := yL_ofEdge) B (hts _ List.mem_cons_self)
  have hls := lv_entry [.ref (ad 1 0), .int a1, .int a2, .int a3, .ref (ad 1 11)] (n := 6) (Nat.le_of_ble_eq_true rfl)
  rw [lg_entry_eq]
  have hC : Cx p s m ([.ref (ad 1 0), .int a1, .int a2, .int a3, .ref (ad 1 11)] : List Value).toArray c (va_A (wl K4 ad nr H) s.heap.size) s.heap D K4 6 RL cL_ofEdge := ⟨B.exec, B.bytes, hml, hown, fun w hw => hts w (List.mem_cons_of_mem _ hw), hK, hN, fun q h => Or.inr h⟩
  have hret : meth.sig.returnType = some .int ∧ meth.locks = false := ⟨B.returns, B.notSynchronized⟩
  generalize ([.ref (ad 1 0), .int a1, .int a2, .int a3, .ref (ad 1 11)] : List Value).toArray = args at hC ⊢
  suffices hV : V p l e ({ frames := 7, cells := 1, slots := 6, locals := 106 }) s m args below meth c (va_A (wl K4 ad nr H) s.heap.size) s.heap (MQ below (va_Qi (fun q u => q = 2 ∧ u = H1) (Bw D K4 ad nr (va_A (wl K4 ad nr H) s.heap.size)) (va_A (wl K4 ad nr H) s.heap.size)) args s 1 6 (va_A (wl K4 ad nr H) s.heap.size)) D K4 ad nr 6 0 [(0, .ref (ad 1 0)), (1, .int a1), (2, .int a2), (3, .int a3), (4, .ref (ad 1 11))] [] H by
    exact hV s.heap [] _ hP hD.self va_S.rf hls
  refine V_aload hC 4 dL_ofEdge_0 rfl ?_
  refine V_iconst (v := 0) hC dL_ofEdge_2 (by decide) ?_
  refine V_aload_n hC 0 dL_ofEdge_3 rfl ?_
  refine V_iload_n hC 1 dL_ofEdge_4 rfl ?_
  refine V_iload_n hC 2 dL_ofEdge_5 rfl ?_
  refine V_iload_n hC 3 dL_ofEdge_6 rfl ?_
  intro Hh locs ls hP hD hS hls
  have hf := V_free (ad := ad) (nr := nr) (H := H) hC hD hS
  obtain ⟨q0, hq, -⟩ := wl_get (K4 := K4) (ad := ad) (H := H) (nr := nr) (g := 1) (k := 0) rfl
  have hc : cel K4 ad H 1 0 = .inr (8, fls ad H 1 0 8) := rfl
  rw [hc] at hq
  have hblind : FrameBlind (va_Pc (.ref (ad 1 0) :: [.int a1, .int a2, .int a3]) (fun U => PcB D K4 ad nr H Hh.size U ∧ XPr (va_A (wl K4 ad nr H) Hh.size) U U.heap)) := by
    intro a U g mk q
    obtain ⟨q0, q1, q2⟩ := q
    exact ⟨q0, (PcW_blind D K4 ad nr H Hh.size _ a U g mk ⟨q0, q1⟩).2, q2.warm (U := U.calling g mk a) (State.WarmedH.refl U) (fun _ _ _ => rfl) (fun _ h => h)⟩
  refine vx_calll (vx_runV (As := [.int a1, .int a2, .int a3]) (rest := [.int 0, .ref (ad 1 11)]) ⟨hC.1, hC.2.1, hC.2.2.1, hC.2.2.2.1, hC.2.2.2.2.1⟩ (t_X8_ofEdge_t l hl h D K4 ad Hh.size) (ml_L_ofEdge.cwX hC.2.2.2.2.1 ⟨Nat.le_of_ble_eq_true rfl, Nat.le_of_ble_eq_true rfl⟩) ⟨hblind, va_recv hC.2.2.2.2.2.1 hP (ci := 8) (q0 := q0) rfl hq, fun U hU hW2 => ⟨rfl, V_pre hC hP hD U hU hW2, by rw [hU]; exact hX.1.warm hW2 hS.2.1 hf⟩⟩ rfl rfl hls.1 rfl (lv_room (Nat.le_of_ble_eq_true rfl)) dL_ofEdge_7 ⟨Nat.le_of_ble_eq_true rfl, Nat.le_of_ble_eq_true rfl⟩) hS (fun q _ h => hf q h) hf (fun q _ h => hf q h) (fun E ce q9 u t H2 locs1 ht hvm _ hB hz1 hk1 hS1 hce hcv hcc => ?_) (fun r u t H2 locs1 ht hvm hw _ _ _ _ => hw.elim)
  obtain ⟨rfl, hP1, hD1⟩ := hB
  rw [ht] at hP1

  refine vx_catch hown [⟨0, 11, 14, 13⟩] ⟨0, 11, 18, 15⟩ [] htab (fun z hz => by cases List.mem_singleton.mp hz; exact Or.inr ⟨by decide, xn 1, hC.2.2.2.2.1 _ lk_x13, hX.2⟩) rfl (by decide) (hC.2.2.2.2.1 _ lk_x15) (va_Nw.use (A := args) (xw_on rfl) (hX.1.1 _ ca_x2)) hce hcv hcc ?_
  refine lv_astore (lv' := _) hC.1 hC.2.1 dL_ofEdge_18 hls (by decide) rfl (fun ls2 hl2 => ?_)
  refine lv_iconst (v := 2) hC.1 hC.2.1 dL_ofEdge_20 (by decide) ?_
  have hlocks := hret.2
  exact W.iret hC.1 hC.2.1 hret.1 (fun t2 ht2 _ => ⟨⟨2, H1, rfl, ⟨rfl, rfl⟩, by rw [ht2]; exact hP1, hD1.weaken (fun _ q _ h => hf q.1 h)⟩, hS1.F ht2⟩) hS1.2.2 dL_ofEdge_21
theorem dL_ofBlock_0 : decode cL_ofBlock 0 = .ok (.aload 4, 2) := by decide +kernel
theorem dL_ofBlock_2 : decode cL_ofBlock 2 = .ok (.iconst 0, 1) := by decide +kernel
theorem dL_ofBlock_3 : decode cL_ofBlock 3 = .ok (.aload_n 0, 1) := by decide +kernel
theorem dL_ofBlock_4 : decode cL_ofBlock 4 = .ok (.iload_n 1, 1) := by decide +kernel
theorem dL_ofBlock_5 : decode cL_ofBlock 5 = .ok (.iload_n 2, 1) := by decide +kernel
theorem dL_ofBlock_6 : decode cL_ofBlock 6 = .ok (.iload_n 3, 1) := by decide +kernel
theorem dL_ofBlock_7 : decode cL_ofBlock 7 = .ok (.invokevirtual 21, 3) := by decide +kernel
theorem dL_ofBlock_10 : decode cL_ofBlock 10 = .ok (.lastore, 1) := by decide +kernel
theorem dL_ofBlock_11 : decode cL_ofBlock 11 = .ok (.goto 11, 3) := by decide +kernel
theorem dL_ofBlock_14 : decode cL_ofBlock 14 = .ok (.astore 5, 2) := by decide +kernel
theorem dL_ofBlock_16 : decode cL_ofBlock 16 = .ok (.iconst 1, 1) := by decide +kernel
theorem dL_ofBlock_17 : decode cL_ofBlock 17 = .ok (.ireturn, 1) := by decide +kernel
theorem dL_ofBlock_18 : decode cL_ofBlock 18 = .ok (.astore 5, 2) := by decide +kernel
theorem dL_ofBlock_20 : decode cL_ofBlock 20 = .ok (.iconst 2, 1) := by decide +kernel
theorem dL_ofBlock_21 : decode cL_ofBlock 21 = .ok (.ireturn, 1) := by decide +kernel
theorem dL_ofBlock_22 : decode cL_ofBlock 22 = .ok (.iconst 0, 1) := by decide +kernel
theorem dL_ofBlock_23 : decode cL_ofBlock 23 = .ok (.ireturn, 1) := by decide +kernel
theorem ml_L_ofBlock : ML RL 21 yX8_ofBlock cX8_ofBlock 5 (some .long) 8 3 := ⟨⟨TX8, 4, rfl⟩, gall (by decide +kernel) (by decide +kernel), by decide +kernel, by decide +kernel, by decide +kernel⟩
set_option maxRecDepth 100000 in
set_option maxHeartbeats 4000000 in
theorem w_L_ofBlock_0 (l : Launch) {nr : Nat} {a1 : Int32} {a2 : Int32} {a3 : Int32} {H : Hp} {x : Int64} {H1 : Hp} (h : f_X8_ofBlock nr a1 a2 a3 H = some (x, H1)) (D : va_G) (K4 : kQ) (ad : Nat → Nat → Nat) (sz : Nat) : Met l yL_ofBlock (.codeWith yL_ofBlock cL_ofBlock 6 (some .int) [(0, 11, 14, 13), (0, 11, 18, 15)] :: GW) ({ frames := 7, cells := 0, slots := 0, locals := 106 }) (va_Pc [.ref (ad 1 0), .int a1, .int a2, .int a3, .ref (ad 1 11)] (fun U => PcB D K4 ad nr H sz U ∧ LPr (va_A (wl K4 ad nr H) sz) U U.heap)) (va_Qi (fun q u => q = 0 ∧ u = sJ H1 1 11 0 x) (Bw D K4 ad nr (va_A (wl K4 ad nr H) sz)) (va_A (wl K4 ad nr H) sz)) 0 0 (va_A (wl K4 ad nr H) sz) := by
  refine Met.ofWH (cc := cL_ofBlock) (maxL := 6) (ret := some .int) (hh := [(0, 11, 14, 13), (0, 11, 18, 15)]) (by decide) rfl ?_
  intro p e s m args below meth c s₁ B hml hv
  obtain ⟨rfl, ⟨rfl, hP, hK, hN, hD⟩, hX⟩ := hv
  have hts := atoms_spec (ws := (.codeWith yL_ofBlock cL_ofBlock 6 (some .int) [(0, 11, 14, 13), (0, 11, 18, 15)] :: GW)) B.pre
  have hown : s.vm.findClass RL = some m.cls := findClass_of_methodNamed B.named
  have htab := vx_table (x := yL_ofBlock) B (hts _ List.mem_cons_self)
  have hls := lv_entry [.ref (ad 1 0), .int a1, .int a2, .int a3, .ref (ad 1 11)] (n := 6) (Nat.le_of_ble_eq_true rfl)
  rw [lg_entry_eq]
  have hC : Cx p s m ([.ref (ad 1 0), .int a1, .int a2, .int a3, .ref (ad 1 11)] : List Value).toArray c (va_A (wl K4 ad nr H) s.heap.size) s.heap D K4 6 RL cL_ofBlock := ⟨B.exec, B.bytes, hml, hown, fun w hw => hts w (List.mem_cons_of_mem _ hw), hK, hN, fun q h => Or.inr h⟩
  have hret : meth.sig.returnType = some .int ∧ meth.locks = false := ⟨B.returns, B.notSynchronized⟩
  generalize ([.ref (ad 1 0), .int a1, .int a2, .int a3, .ref (ad 1 11)] : List Value).toArray = args at hC ⊢
  suffices hV : V p l e ({ frames := 7, cells := 0, slots := 0, locals := 106 }) s m args below meth c (va_A (wl K4 ad nr H) s.heap.size) s.heap (MQ below (va_Qi (fun q u => q = 0 ∧ u = sJ H1 1 11 0 x) (Bw D K4 ad nr (va_A (wl K4 ad nr H) s.heap.size)) (va_A (wl K4 ad nr H) s.heap.size)) args s 0 0 (va_A (wl K4 ad nr H) s.heap.size)) D K4 ad nr 6 0 [(0, .ref (ad 1 0)), (1, .int a1), (2, .int a2), (3, .int a3), (4, .ref (ad 1 11))] [] H by
    exact hV s.heap [] _ hP hD.self va_S.rf hls
  refine V_aload hC 4 dL_ofBlock_0 rfl ?_
  refine V_iconst (v := 0) hC dL_ofBlock_2 (by decide) ?_
  refine V_aload_n hC 0 dL_ofBlock_3 rfl ?_
  refine V_iload_n hC 1 dL_ofBlock_4 rfl ?_
  refine V_iload_n hC 2 dL_ofBlock_5 rfl ?_
  refine V_iload_n hC 3 dL_ofBlock_6 rfl ?_
  refine V_calll (g := 1) (k := 0) (As := [.int a1, .int a2, .int a3]) (st := [.int 0, .ref (ad 1 11)]) hC (c_X8_ofBlock l h) rfl ml_L_ofBlock ⟨Nat.le_of_ble_eq_true rfl, Nat.le_of_ble_eq_true rfl⟩ rfl rfl rfl (Nat.le_of_ble_eq_true rfl) dL_ofBlock_7 ?_
  refine V_last (g := 1) (k := 11) hC rfl rfl (show vp_in (nI 0) 1 from vp_in_nI (by decide) (by decide)) dL_ofBlock_10 ?_
  refine V_goto (tgt := 22) hC dL_ofBlock_11 (by decide) ?_
  refine V_iconst (v := 0) hC dL_ofBlock_22 (by decide) ?_
  exact V_ireta (cs := 0) (sl := 0) hC (sJ H1 1 11 0 x) hret dL_ofBlock_23 ⟨rfl, rfl⟩ (fun t a b => ⟨a, b⟩)
set_option maxRecDepth 100000 in
set_option maxHeartbeats 4000000 in
theorem w_L_ofBlock_1 (l : Launch) (hl : l.stackTraces = false) {nr : Nat} {a1 : Int32} {a2 : Int32} {a3 : Int32} {H H1 : Hp} (h : f_X8_ofBlock_t nr a1 a2 a3 H = some (1, H1)) (D : va_G) (K4 : kQ) (ad : Nat → Nat → Nat) (sz : Nat) : Met l yL_ofBlock (.codeWith yL_ofBlock cL_ofBlock 6 (some .int) [(0, 11, 14, 13), (0, 11, 18, 15)] :: GW) ({ frames := 7, cells := 1, slots := 6, locals := 106 }) (va_Pc [.ref (ad 1 0), .int a1, .int a2, .int a3, .ref (ad 1 11)] (fun U => PcB D K4 ad nr H sz U ∧ LPr (va_A (wl K4 ad nr H) sz) U U.heap)) (va_Qi (fun q u => q = 1 ∧ u = H1) (Bw D K4 ad nr (va_A (wl K4 ad nr H) sz)) (va_A (wl K4 ad nr H) sz)) 1 6 (va_A (wl K4 ad nr H) sz) := by
  refine Met.ofWH (cc := cL_ofBlock) (maxL := 6) (ret := some .int) (hh := [(0, 11, 14, 13), (0, 11, 18, 15)]) (by decide) rfl ?_
  intro p e s m args below meth c s₁ B hml hv
  obtain ⟨rfl, ⟨rfl, hP, hK, hN, hD⟩, hX⟩ := hv
  have hts := atoms_spec (ws := (.codeWith yL_ofBlock cL_ofBlock 6 (some .int) [(0, 11, 14, 13), (0, 11, 18, 15)] :: GW)) B.pre
  have hown : s.vm.findClass RL = some m.cls := findClass_of_methodNamed B.named
  have htab := vx_table (x := yL_ofBlock) B (hts _ List.mem_cons_self)
  have hls := lv_entry [.ref (ad 1 0), .int a1, .int a2, .int a3, .ref (ad 1 11)] (n := 6) (Nat.le_of_ble_eq_true rfl)
  rw [lg_entry_eq]
  have hC : Cx p s m ([.ref (ad 1 0), .int a1, .int a2, .int a3, .ref (ad 1 11)] : List Value).toArray c (va_A (wl K4 ad nr H) s.heap.size) s.heap D K4 6 RL cL_ofBlock := ⟨B.exec, B.bytes, hml, hown, fun w hw => hts w (List.mem_cons_of_mem _ hw), hK, hN, fun q h => Or.inr h⟩
  have hret : meth.sig.returnType = some .int ∧ meth.locks = false := ⟨B.returns, B.notSynchronized⟩
  generalize ([.ref (ad 1 0), .int a1, .int a2, .int a3, .ref (ad 1 11)] : List Value).toArray = args at hC ⊢
  suffices hV : V p l e ({ frames := 7, cells := 1, slots := 6, locals := 106 }) s m args below meth c (va_A (wl K4 ad nr H) s.heap.size) s.heap (MQ below (va_Qi (fun q u => q = 1 ∧ u = H1) (Bw D K4 ad nr (va_A (wl K4 ad nr H) s.heap.size)) (va_A (wl K4 ad nr H) s.heap.size)) args s 1 6 (va_A (wl K4 ad nr H) s.heap.size)) D K4 ad nr 6 0 [(0, .ref (ad 1 0)), (1, .int a1), (2, .int a2), (3, .int a3), (4, .ref (ad 1 11))] [] H by
    exact hV s.heap [] _ hP hD.self va_S.rf hls
  refine V_aload hC 4 dL_ofBlock_0 rfl ?_
  refine V_iconst (v := 0) hC dL_ofBlock_2 (by decide) ?_
  refine V_aload_n hC 0 dL_ofBlock_3 rfl ?_
  refine V_iload_n hC 1 dL_ofBlock_4 rfl ?_
  refine V_iload_n hC 2 dL_ofBlock_5 rfl ?_
  refine V_iload_n hC 3 dL_ofBlock_6 rfl ?_
  intro Hh locs ls hP hD hS hls
  have hf := V_free (ad := ad) (nr := nr) (H := H) hC hD hS
  obtain ⟨q0, hq, -⟩ := wl_get (K4 := K4) (ad := ad) (H := H) (nr := nr) (g := 1) (k := 0) rfl
  have hc : cel K4 ad H 1 0 = .inr (8, fls ad H 1 0 8) := rfl
  rw [hc] at hq
  have hblind : FrameBlind (va_Pc (.ref (ad 1 0) :: [.int a1, .int a2, .int a3]) (fun U => PcB D K4 ad nr H Hh.size U ∧ XPr (va_A (wl K4 ad nr H) Hh.size) U U.heap)) := by
    intro a U g mk q
    obtain ⟨q0, q1, q2⟩ := q
    exact ⟨q0, (PcW_blind D K4 ad nr H Hh.size _ a U g mk ⟨q0, q1⟩).2, q2.warm (U := U.calling g mk a) (State.WarmedH.refl U) (fun _ _ _ => rfl) (fun _ h => h)⟩
  refine vx_calll (vx_runV (As := [.int a1, .int a2, .int a3]) (rest := [.int 0, .ref (ad 1 11)]) ⟨hC.1, hC.2.1, hC.2.2.1, hC.2.2.2.1, hC.2.2.2.2.1⟩ (t_X8_ofBlock_t l hl h D K4 ad Hh.size) (ml_L_ofBlock.cwX hC.2.2.2.2.1 ⟨Nat.le_of_ble_eq_true rfl, Nat.le_of_ble_eq_true rfl⟩) ⟨hblind, va_recv hC.2.2.2.2.2.1 hP (ci := 8) (q0 := q0) rfl hq, fun U hU hW2 => ⟨rfl, V_pre hC hP hD U hU hW2, by rw [hU]; exact hX.1.warm hW2 hS.2.1 hf⟩⟩ rfl rfl hls.1 rfl (lv_room (Nat.le_of_ble_eq_true rfl)) dL_ofBlock_7 ⟨Nat.le_of_ble_eq_true rfl, Nat.le_of_ble_eq_true rfl⟩) hS (fun q _ h => hf q h) hf (fun q _ h => hf q h) (fun E ce q9 u t H2 locs1 ht hvm _ hB hz1 hk1 hS1 hce hcv hcc => ?_) (fun r u t H2 locs1 ht hvm hw _ _ _ _ => hw.elim)
  obtain ⟨rfl, hP1, hD1⟩ := hB
  rw [ht] at hP1

  refine vx_catch hown [] ⟨0, 11, 14, 13⟩ [⟨0, 11, 18, 15⟩] htab (fun z hz => by cases hz) rfl (by decide) (hC.2.2.2.2.1 _ lk_x13) (va_Nw.use (A := args) (xw_on rfl) (hX.1.1 _ ca_x1)) hce hcv hcc ?_
  refine lv_astore (lv' := _) hC.1 hC.2.1 dL_ofBlock_14 hls (by decide) rfl (fun ls2 hl2 => ?_)
  refine lv_iconst (v := 1) hC.1 hC.2.1 dL_ofBlock_16 (by decide) ?_
  have hlocks := hret.2
  exact W.iret hC.1 hC.2.1 hret.1 (fun t2 ht2 _ => ⟨⟨1, H1, rfl, ⟨rfl, rfl⟩, by rw [ht2]; exact hP1, hD1.weaken (fun _ q _ h => hf q.1 h)⟩, hS1.F ht2⟩) hS1.2.2 dL_ofBlock_17
set_option maxRecDepth 100000 in
set_option maxHeartbeats 4000000 in
theorem w_L_ofBlock_2 (l : Launch) (hl : l.stackTraces = false) {nr : Nat} {a1 : Int32} {a2 : Int32} {a3 : Int32} {H H1 : Hp} (h : f_X8_ofBlock_t nr a1 a2 a3 H = some (2, H1)) (D : va_G) (K4 : kQ) (ad : Nat → Nat → Nat) (sz : Nat) : Met l yL_ofBlock (.codeWith yL_ofBlock cL_ofBlock 6 (some .int) [(0, 11, 14, 13), (0, 11, 18, 15)] :: GW) ({ frames := 7, cells := 1, slots := 6, locals := 106 }) (va_Pc [.ref (ad 1 0), .int a1, .int a2, .int a3, .ref (ad 1 11)] (fun U => PcB D K4 ad nr H sz U ∧ LPr (va_A (wl K4 ad nr H) sz) U U.heap)) (va_Qi (fun q u => q = 2 ∧ u = H1) (Bw D K4 ad nr (va_A (wl K4 ad nr H) sz)) (va_A (wl K4 ad nr H) sz)) 1 6 (va_A (wl K4 ad nr H) sz) := by
  refine Met.ofWH (cc := cL_ofBlock) (maxL := 6) (ret := some .int) (hh := [(0, 11, 14, 13), (0, 11, 18, 15)]) (by decide) rfl ?_
  intro p e s m args below meth c s₁ B hml hv
  obtain ⟨rfl, ⟨rfl, hP, hK, hN, hD⟩, hX⟩ := hv
  have hts := atoms_spec (ws := (.codeWith yL_ofBlock cL_ofBlock 6 (some .int) [(0, 11, 14, 13), (0, 11, 18, 15)] :: GW)) B.pre
  have hown : s.vm.findClass RL = some m.cls := findClass_of_methodNamed B.named
  have htab := vx_table (x := yL_ofBlock) B (hts _ List.mem_cons_self)
  have hls := lv_entry [.ref (ad 1 0), .int a1, .int a2, .int a3, .ref (ad 1 11)] (n := 6) (Nat.le_of_ble_eq_true rfl)
  rw [lg_entry_eq]
  have hC : Cx p s m ([.ref (ad 1 0), .int a1, .int a2, .int a3, .ref (ad 1 11)] : List Value).toArray c (va_A (wl K4 ad nr H) s.heap.size) s.heap D K4 6 RL cL_ofBlock := ⟨B.exec, B.bytes, hml, hown, fun w hw => hts w (List.mem_cons_of_mem _ hw), hK, hN, fun q h => Or.inr h⟩
  have hret : meth.sig.returnType = some .int ∧ meth.locks = false := ⟨B.returns, B.notSynchronized⟩
  generalize ([.ref (ad 1 0), .int a1, .int a2, .int a3, .ref (ad 1 11)] : List Value).toArray = args at hC ⊢
  suffices hV : V p l e ({ frames := 7, cells := 1, slots := 6, locals := 106 }) s m args below meth c (va_A (wl K4 ad nr H) s.heap.size) s.heap (MQ below (va_Qi (fun q u => q = 2 ∧ u = H1) (Bw D K4 ad nr (va_A (wl K4 ad nr H) s.heap.size)) (va_A (wl K4 ad nr H) s.heap.size)) args s 1 6 (va_A (wl K4 ad nr H) s.heap.size)) D K4 ad nr 6 0 [(0, .ref (ad 1 0)), (1, .int a1), (2, .int a2), (3, .int a3), (4, .ref (ad 1 11))] [] H by
    exact hV s.heap [] _ hP hD.self va_S.rf hls
  refine V_aload hC 4 dL_ofBlock_0 rfl ?_
  refine V_iconst (v := 0) hC dL_ofBlock_2 (by decide) ?_
  refine V_aload_n hC 0 dL_ofBlock_3 rfl ?_
  refine V_iload_n hC 1 dL_ofBlock_4 rfl ?_
  refine V_iload_n hC 2 dL_ofBlock_5 rfl ?_
  refine V_iload_n hC 3 dL_ofBlock_6 rfl ?_
  intro Hh locs ls hP hD hS hls
  have hf := V_free (ad := ad) (nr := nr) (H := H) hC hD hS
  obtain ⟨q0, hq, -⟩ := wl_get (K4 := K4) (ad := ad) (H := H) (nr := nr) (g := 1) (k := 0) rfl
  have hc : cel K4 ad H 1 0 = .inr (8, fls ad H 1 0 8) := rfl
  rw [hc] at hq
  have hblind : FrameBlind (va_Pc (.ref (ad 1 0) :: [.int a1, .int a2, .int a3]) (fun U => PcB D K4 ad nr H Hh.size U ∧ XPr (va_A (wl K4 ad nr H) Hh.size) U U.heap)) := by
    intro a U g mk q
    obtain ⟨q0, q1, q2⟩ := q
    exact ⟨q0, (PcW_blind D K4 ad nr H Hh.size _ a U g mk ⟨q0, q1⟩).2, q2.warm (U := U.calling g mk a) (State.WarmedH.refl U) (fun _ _ _ => rfl) (fun _ h => h)⟩
  refine vx_calll (vx_runV (As := [.int a1, .int a2, .int a3]) (rest := [.int 0, .ref (ad 1 11)]) ⟨hC.1, hC.2.1, hC.2.2.1, hC.2.2.2.1, hC.2.2.2.2.1⟩ (t_X8_ofBlock_t l hl h D K4 ad Hh.size) (ml_L_ofBlock.cwX hC.2.2.2.2.1 ⟨Nat.le_of_ble_eq_true rfl, Nat.le_of_ble_eq_true rfl⟩) ⟨hblind, va_recv hC.2.2.2.2.2.1 hP (ci := 8) (q0 := q0) rfl hq, fun U hU hW2 => ⟨rfl, V_pre hC hP hD U hU hW2, by rw [hU]; exact hX.1.warm hW2 hS.2.1 hf⟩⟩ rfl rfl hls.1 rfl (lv_room (Nat.le_of_ble_eq_true rfl)) dL_ofBlock_7 ⟨Nat.le_of_ble_eq_true rfl, Nat.le_of_ble_eq_true rfl⟩) hS (fun q _ h => hf q h) hf (fun q _ h => hf q h) (fun E ce q9 u t H2 locs1 ht hvm _ hB hz1 hk1 hS1 hce hcv hcc => ?_) (fun r u t H2 locs1 ht hvm hw _ _ _ _ => hw.elim)
  obtain ⟨rfl, hP1, hD1⟩ := hB
  rw [ht] at hP1

  refine vx_catch hown [⟨0, 11, 14, 13⟩] ⟨0, 11, 18, 15⟩ [] htab (fun z hz => by cases List.mem_singleton.mp hz; exact Or.inr ⟨by decide, xn 1, hC.2.2.2.2.1 _ lk_x13, hX.2⟩) rfl (by decide) (hC.2.2.2.2.1 _ lk_x15) (va_Nw.use (A := args) (xw_on rfl) (hX.1.1 _ ca_x2)) hce hcv hcc ?_
  refine lv_astore (lv' := _) hC.1 hC.2.1 dL_ofBlock_18 hls (by decide) rfl (fun ls2 hl2 => ?_)
  refine lv_iconst (v := 2) hC.1 hC.2.1 dL_ofBlock_20 (by decide) ?_
  have hlocks := hret.2
  exact W.iret hC.1 hC.2.1 hret.1 (fun t2 ht2 _ => ⟨⟨2, H1, rfl, ⟨rfl, rfl⟩, by rw [ht2]; exact hP1, hD1.weaken (fun _ q _ h => hf q.1 h)⟩, hS1.F ht2⟩) hS1.2.2 dL_ofBlock_21
