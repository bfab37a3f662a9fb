/-- throws -/
def isXW : Cond → Bool
  | .castable _ _ => true
  | .declares _ => true
  | _ => false
def XW : List Cond := lw_tbl.filter isXW
theorem xw_on {w : Cond} (h : isXW w = true) : w.onTables = true := by
  unfold isXW at h
  split at h
  · rfl
  · rfl
  · cases h
theorem xw_warm {w : Cond} (h : isXW w = true) {s U : State} (hW : s.WarmedH U.vm) (hz : va_Nw w s) : va_Nw w U := by
  unfold isXW at h
  split at h
  · exact va_Nw.warmC hW hz
  · exact va_Nw.warmD hW hz
  · cases h
def strs : List (Nat × String) := [(93, "no such routine"), (100, "no such what of a routine"), (107, "no such edge"), (109, "no such what of an edge"), (121, "no such block"), (123, "no such what of a block")]
def XPr (A : Nat → Prop) (U : State) (H : Heap) : Prop := (∀ w ∈ XW, va_Nw w U) ∧ vx_Zq Bundle.tN "UNASSIGNED_STACK" Bundle.steD A U H ∧ vx_Zq Bundle.tN "SUPPRESSED_SENTINEL" Bundle.listD A U H ∧ (∀ q ∈ strs, ∃ a, vk_R RX8 q.1 q.2 a U)
theorem XPr.warm {A B : Nat → Prop} {s U : State} {H H1 : Heap} (h : XPr A s H) (hW : s.WarmedH U.vm) (hk : ∀ a : Nat, a < H.size → ¬ A a → H1[a]? = H[a]?) (hAB : ∀ q, B q → A q) : XPr B U H1 := by
  obtain ⟨h1, h2, h3, h4⟩ := h
  refine ⟨fun w hw => xw_warm (List.mem_filter.mp hw).2 hW (h1 w hw), ((h2.kept hk).moved hW.alike).narrow hAB, ((h3.kept hk).moved hW.alike).narrow hAB, fun q hq => ?_⟩
  obtain ⟨a, ha⟩ := h4 q hq
  exact ⟨a, ha.warm hW⟩
abbrev xnames : List String := ["java/lang/RuntimeException", "java/lang/Exception"]
def xn (k : Nat) : String := if k = 1 then "java/lang/IndexOutOfBoundsException" else "java/util/NoSuchElementException"
/-- the words of one throw -/
def TH1 (ik ic : Nat) : Prop := (∀ w ∈ ([.classLink RX8 ik (xn 1), .initialized (xn 1)] : List Cond), w ∈ GW) ∧ (∀ w ∈ (vx_atS RX8 ic (xn 1) xnames), w ∈ lw_tbl) ∧ (∀ w ∈ (vx_atS RX8 ic (xn 1) xnames), (goodWord w || isXW w) = true) ∧ (∀ w ∈ Cond.classLink RX8 ik (xn 1) :: Cond.initialized (xn 1) :: (vx_atS RX8 ic (xn 1) xnames), vx_ot w = true) ∧ Bundle.fit (xn 1) = true
/-- the words of one throw -/
def TH2 (ik ic : Nat) : Prop := (∀ w ∈ ([.classLink RX8 ik (xn 2), .initialized (xn 2)] : List Cond), w ∈ GW) ∧ (∀ w ∈ ((xAtoms RX8 ic (xn 2)).filter vx_no), w ∈ lw_tbl) ∧ (∀ w ∈ ((xAtoms RX8 ic (xn 2)).filter vx_no), (goodWord w || isXW w) = true) ∧ (∀ w ∈ Cond.classLink RX8 ik (xn 2) :: Cond.initialized (xn 2) :: ((xAtoms RX8 ic (xn 2)).filter vx_no), vx_ot w = true) ∧ Bundle.fit (xn 2) = true
theorem xn_fit : ∀ n ∈ xnames, Bundle.fit n = true := by decide +kernel
def QX (below : List Frame) (args : Array Value) (s : State) (A : Nat → Prop) (D : va_G) (K4 : kQ) (ad : Nat → Nat → Nat) (nr : Nat) (res : Nat × Hp) : State → Prop := vx_MQ below (va_Ql (fun (_ : Int64) (_ : Unit) => False) (fun _ _ => True) A) (vx_X (fun _ : Unit => True) (fun E _ t => E = xn res.1 ∧ Bw D K4 ad nr A res.2 t) A) args s 1 6 A
theorem V_throw1 {p : Program} {l : Launch} {e : Env} {R : Room} {s : State} {m : MethodId} {args : Array Value} {below : List Frame} {meth : Method} {c : Code} {A : Nat → Prop} {D : va_G} {K4 : kQ} {ad : Nat → Nat → Nat} {nr nL : Nat} {cc : ByteArray} {pc : Nat} {lv : List (Nat × Value)} {st : List Value} {H : Hp} (hC : Cx p s m args c A s.heap D K4 nL RX8 cc) (hl : l.stackTraces = false) (hX : XPr A s s.heap) (hno : (∀ x ∈ c.exceptionTable.toList, False) ∧ meth.locks = false) {ik is ic : Nat} {text : String} {res : Nat × Hp} (hT : TH1 ik ic) (hk1 : res.1 = 1) (hstr : (is, text) ∈ strs) (hR : 5 < R.frames ∧ (st.map fun v => v.category).sum + 82 ≤ R.locals ∧ 1 ≤ R.cells ∧ 6 ≤ R.slots) (hH : H = res.2)
    (d0 : decode cc pc = .ok (.new ik, 3)) (d3 : decode cc (pc + 3) = .ok (.dup, 1)) (d4 : decode cc (pc + 4) = .ok (.ldc is, 2)) (d6 : decode cc (pc + 6) = .ok (.invokespecial ic, 3)) (d9 : decode cc (pc + 9) = .ok (.athrow, 1)) :
    V p l e R s m args below meth c A s.heap (QX below args s A D K4 ad nr res) D K4 ad nr nL pc lv st H := by
  intro Hh locs ls hP hD hS hls
  obtain ⟨sa, hsa⟩ := hX.2.2.2 _ hstr
  have hat : ∀ w ∈ (vx_atS RX8 ic (xn 1) xnames), w.before args s = true := by
    intro w hw
    have h2 := hT.2.2.1 w hw
    rw [Bool.or_eq_true] at h2
    rcases h2 with g | g
    · exact hC.2.2.2.2.1 w (List.mem_filter.mpr ⟨hT.2.1 w hw, g⟩)
    · exact va_Nw.use (xw_on g) (hX.1 w (List.mem_filter.mpr ⟨hT.2.1 w hw, g⟩))
  obtain ⟨r1, r2⟩ := res
  dsimp only at hk1 hH
  subst hk1
  refine vx_throwS (cls := xn 1) (names := xnames) hC.1 hC.2.1 hl hC.2.2.2.1 hT.2.2.2.2 xn_fit (hC.2.2.2.2.1 _ (hT.1 _ (by simp))) (hC.2.2.2.2.1 _ (hT.1 _ (by simp))) hsa hat hT.2.2.2.1 hX.2.1 hX.2.2.1 hS (by rw [hls.1, hC.2.2.1]) d0 d3 d4 d6 d9 (fun x hx => absurd hx (fun h => hno.1 x h)) hR.1 hR.2.1 (by rw [Nat.zero_add]; exact hR.2.2.1) (by rw [Nat.zero_add]; exact hR.2.2.2) hno.2 (fun t hvm hz hk => ?_) hS.2.2 (Nat.le_refl _) (Nat.le_refl _)
  subst hH
  refine ⟨(), trivial, ⟨rfl, hP.kept (fun k q hq => hk q.1 ((hP k q hq).lt)), hD⟩, Nat.le_trans hS.1 hz, fun q h1 h2 => ?_⟩
  rw [hk q (Nat.lt_of_lt_of_le h1 hS.1)]
  exact hS.2.1 q h1 h2
theorem V_throw2 {p : Program} {l : Launch} {e : Env} {R : Room} {s : State} {m : MethodId} {args : Array Value} {below : List Frame} {meth : Method} {c : Code} {A : Nat → Prop} {D : va_G} {K4 : kQ} {ad : Nat → Nat → Nat} {nr nL : Nat} {cc : ByteArray} {pc : Nat} {lv : List (Nat × Value)} {st : List Value} {H : Hp} (hC : Cx p s m args c A s.heap D K4 nL RX8 cc) (hl : l.stackTraces = false) (hX : XPr A s s.heap) (hno : (∀ x ∈ c.exceptionTable.toList, False) ∧ meth.locks = false) {ik is ic : Nat} {text : String} {res : Nat × Hp} (hT : TH2 ik ic) (hk1 : res.1 = 2) (hstr : (is, text) ∈ strs) (hR : 5 < R.frames ∧ (st.map fun v => v.category).sum + 82 ≤ R.locals ∧ 1 ≤ R.cells ∧ 6 ≤ R.slots) (hH : H = res.2)
    (d0 : decode cc pc = .ok (.new ik, 3)) (d3 : decode cc (pc + 3) = .ok (.dup, 1)) (d4 : decode cc (pc + 4) = .ok (.ldc is, 2)) (d6 : decode cc (pc + 6) = .ok (.invokespecial ic, 3)) (d9 : decode cc (pc + 9) = .ok (.athrow, 1)) :
    V p l e R s m args below meth c A s.heap (QX below args s A D K4 ad nr res) D K4 ad nr nL pc lv st H := by
  intro Hh locs ls hP hD hS hls
  obtain ⟨sa, hsa⟩ := hX.2.2.2 _ hstr
  have hat : ∀ w ∈ ((xAtoms RX8 ic (xn 2)).filter vx_no), w.before args s = true := by
    intro w hw
    have h2 := hT.2.2.1 w hw
    rw [Bool.or_eq_true] at h2
    rcases h2 with g | g
    · exact hC.2.2.2.2.1 w (List.mem_filter.mpr ⟨hT.2.1 w hw, g⟩)
    · exact va_Nw.use (xw_on g) (hX.1 w (List.mem_filter.mpr ⟨hT.2.1 w hw, g⟩))
  obtain ⟨r1, r2⟩ := res
  dsimp only at hk1 hH
  subst hk1
  refine xthrow (cls := xn 2) hC.1 hC.2.1 hl hC.2.2.2.1 hT.2.2.2.2 (hC.2.2.2.2.1 _ (hT.1 _ (by simp))) (hC.2.2.2.2.1 _ (hT.1 _ (by simp))) hsa hat hT.2.2.2.1 hX.2.1 hX.2.2.1 hS (by rw [hls.1, hC.2.2.1]) d0 d3 d4 d6 d9 (fun x hx => absurd hx (fun h => hno.1 x h)) hR.1 hR.2.1 (by rw [Nat.zero_add]; exact hR.2.2.1) (by rw [Nat.zero_add]; exact hR.2.2.2) hno.2 (fun t hvm hz hk => ?_) hS.2.2 (Nat.le_refl _) (Nat.le_refl _)
  subst hH
  refine ⟨(), trivial, ⟨rfl, hP.kept (fun k q hq => hk q.1 ((hP k q hq).lt)), hD⟩, Nat.le_trans hS.1 hz, fun q h1 h2 => ?_⟩
  rw [hk q (Nat.lt_of_lt_of_le h1 hS.1)]
  exact hS.2.1 q h1 h2

theorem th_91_95 : TH1 91 95 := ⟨gall (by decide +kernel) (by decide +kernel), by decide +kernel, by decide +kernel, by decide +kernel, by decide +kernel⟩
theorem th_98_102 : TH2 98 102 := ⟨gall (by decide +kernel) (by decide +kernel), by decide +kernel, by decide +kernel, by decide +kernel, by decide +kernel⟩
def f_X8_look_t (nr : Nat) (a1 : Int32) (a2 : Int32) (H : Hp) : Option (Nat × Hp) := bnd (f_X8_routineAt a1 H) (fun w2 H1 => nz nr w2 (some (1, H1)) (fun r3 => if a2 < 0 then some (2, H1) else if a2 ≤ 9 then bnd (f_X2_ofItself r3 a2 H1) (fun w7 H6 => none) else some (2, H1)))
set_option maxRecDepth 100000 in
set_option maxHeartbeats 4000000 in
theorem s_X8_look_t {p : Program} {l : Launch} {e : Env} {s : State} {m : MethodId} {args : Array Value} {below : List Frame} {meth : Method} {c : Code} {A : Nat → Prop} {D : va_G} {K4 : kQ} {ad : Nat → Nat → Nat} {nr : Nat} {a1 : Int32} {a2 : Int32} {H : Hp} {res : Nat × Hp} (hC : Cx p s m args c A s.heap D K4 4 RX8 cX8_look) (hl : l.stackTraces = false) (hX : XPr A s s.heap) (hno : (∀ x ∈ c.exceptionTable.toList, False) ∧ meth.locks = false) (h : f_X8_look_t nr a1 a2 H = some res) : V p l e ({ frames := 6, cells := 1, slots := 6, locals := 82 }) s m args below meth c A s.heap (QX below args s A D K4 ad nr res) D K4 ad nr 4 0 [(0, .ref (ad 1 0)), (1, .int a1), (2, .int a2)] [] H := by
  unfold f_X8_look_t at h
  refine V_aload_n hC 0 dX8_look_0 rfl ?_
  refine V_iload_n hC 1 dX8_look_1 rfl ?_
  obtain ⟨w2, H1, hc, h⟩ := bnd_some h
  refine V_callq (g := 1) (k := 0) (As := [.int a1]) (st := []) hC (c_X8_routineAt l hc) rfl ml_X8_37 ⟨Nat.le_of_ble_eq_true rfl, Nat.le_of_ble_eq_true rfl⟩ rfl rfl rfl (Nat.le_of_ble_eq_true rfl) dX8_look_2 ?_
  refine V_astoreq_n (lv' := [(3, vr ad w2), (0, .ref (ad 1 0)), (1, .int a1), (2, .int a2)]) hC dX8_look_5 (Nat.le_of_ble_eq_true rfl) rfl ?_
  refine V_aloadq_n hC 0 dX8_look_6 rfl ?_
  replace h := nz_some h
  rcases h with ⟨rfl, h⟩ | ⟨r3, rfl, hr_r3, h⟩
  · refine V_ifnonnullN hC dX8_look_7 ?_
    have h2 := Option.some.inj h
    subst h2
    exact V_throw1 (res := (1, H1)) (text := "no such routine") hC hl hX hno th_91_95 rfl (by decide) ⟨Nat.le_of_ble_eq_true rfl, Nat.le_of_ble_eq_true rfl, Nat.le_of_ble_eq_true rfl, Nat.le_of_ble_eq_true rfl⟩ rfl dX8_look_10 dX8_look_13 dX8_look_14 dX8_look_16 dX8_look_19
  · refine V_ifnonnullS (r := r3) (tgt := 20) hC dX8_look_7 (by decide) ?_
    refine V_iload_n hC 3 dX8_look_20 rfl ?_
    refine V_if_lt (tgt := 30) hC dX8_look_21 (by decide) (fun c4 => ?_) (fun c4 => ?_)
    · replace h := it_pos c4 h
      have h2 := Option.some.inj h
      subst h2
      exact V_throw2 (res := (2, H1)) (text := "no such what of a routine") hC hl hX hno th_98_102 rfl (by decide) ⟨Nat.le_of_ble_eq_true rfl, Nat.le_of_ble_eq_true rfl, Nat.le_of_ble_eq_true rfl, Nat.le_of_ble_eq_true rfl⟩ rfl dX8_look_30 dX8_look_33 dX8_look_34 dX8_look_36 dX8_look_39
    · replace h := it_neg c4 h
      refine V_iload_n hC 3 dX8_look_24 rfl ?_
      refine V_bipush (v := 9) hC dX8_look_25 (by decide) ?_
      refine V_icmp_le (tgt := 40) hC dX8_look_27 (by decide) (fun c5 => ?_) (fun c5 => ?_)
      · replace h := it_pos c5 h
        refine V_aload_n hC 0 dX8_look_40 rfl ?_
        refine V_iload_n hC 3 dX8_look_41 rfl ?_
        obtain ⟨w7, H6, hc, h⟩ := bnd_some h
        refine V_calll (g := (r3 + 2)) (k := 0) (As := [.int a2]) (st := []) hC (c_X2_ofItself l (hr_r := hr_r3) hc) rfl ml_X8_103 ⟨Nat.le_of_ble_eq_true rfl, Nat.le_of_ble_eq_true rfl⟩ (okR hr_r3 rfl) rfl rfl (Nat.le_of_ble_eq_true rfl) dX8_look_42 ?_
        exact nomatch h
      · replace h := it_neg c5 h
        have h2 := Option.some.inj h
        subst h2
        exact V_throw2 (res := (2, H1)) (text := "no such what of a routine") hC hl hX hno th_98_102 rfl (by decide) ⟨Nat.le_of_ble_eq_true rfl, Nat.le_of_ble_eq_true rfl, Nat.le_of_ble_eq_true rfl, Nat.le_of_ble_eq_true rfl⟩ rfl dX8_look_30 dX8_look_33 dX8_look_34 dX8_look_36 dX8_look_39
theorem t_X8_look_t (l : Launch) (hl : l.stackTraces = false) {nr : Nat} {a1 : Int32} {a2 : Int32} {H : Hp} {x : Nat} {H' : Hp} (h : f_X8_look_t nr a1 a2 H = some (x, H')) (D : va_G) (K4 : kQ) (ad : Nat → Nat → Nat) (sz : Nat) : vx_Met l yX8_look (.code yX8_look cX8_look 4 (some .long) :: GW) ({ frames := 6, cells := 1, slots := 6, locals := 82 }) (va_Pc [.ref (ad 1 0), .int a1, .int a2] (fun U => PcB D K4 ad nr H sz U ∧ XPr (va_A (wl K4 ad nr H) sz) U U.heap)) (va_Ql (fun (_ : Int64) (_ : Unit) => False) (fun _ _ => True) (va_A (wl K4 ad nr H) sz)) (vx_X (fun _ : Unit => True) (fun E _ t => E = xn x ∧ Bw D K4 ad nr (va_A (wl K4 ad nr H) sz) H' t) (va_A (wl K4 ad nr H) sz)) 1 6 (va_A (wl K4 ad nr H) sz) := by
  refine vx_ofW (cc := cX8_look) (maxL := 4) (ret := (some .long)) (by decide) rfl ?_
  intro p e s m args below meth c s₁ B hml hno hv
  obtain ⟨rfl, ⟨rfl, hP, hK, hN, hD⟩, hX⟩ := hv
  have hts := atoms_spec (ws := (.code yX8_look cX8_look 4 (some .long) :: GW)) B.pre
  have hown : s.vm.findClass RX8 = some m.cls := findClass_of_methodNamed B.named
  have hls := lv_entry [.ref (ad 1 0), .int a1, .int a2] (n := 4) (Nat.le_of_ble_eq_true rfl)
  rw [lg_entry_eq]
  exact s_X8_look_t ⟨B.exec, B.bytes, hml, hown, fun w hw => hts w (List.mem_cons_of_mem _ hw), hK, hN, fun q h => Or.inr h⟩ hl hX ⟨hno, B.notSynchronized⟩ h s.heap [] _ hP hD.self va_S.rf hls
def f_X8_ofEdge_t (nr : Nat) (a1 : Int32) (a2 : Int32) (a3 : Int32) (H : Hp) : Option (Nat × Hp) := bnd (f_X8_routineAt a1 H) (fun w2 H1 => nz nr w2 (some (1, H1)) (fun r3 => bnd (f_X3_hasEdge r3 a2 H1) (fun w5 H4 => if w5 = 0 then some (1, H4) else if a3 < 0 then some (2, H4) else if a3 ≤ 9 then if 4 ≤ a3 then bnd (f_X2_countOfEdge r3 a2 a3 H4) (fun w11 H10 => none) else bnd (f_X3_shapeOfEdge r3 a2 a3 H4) (fun w13 H12 => none) else some (2, H4))))
set_option maxRecDepth 100000 in
set_option maxHeartbeats 4000000 in
theorem s_X8_ofEdge_t {p : Program} {l : Launch} {e : Env} {s : State} {m : MethodId} {args : Array Value} {below : List Frame} {meth : Method} {c : Code} {A : Nat → Prop} {D : va_G} {K4 : kQ} {ad : Nat → Nat → Nat} {nr : Nat} {a1 : Int32} {a2 : Int32} {a3 : Int32} {H : Hp} {res : Nat × Hp} (hC : Cx p s m args c A s.heap D K4 5 RX8 cX8_ofEdge) (hl : l.stackTraces = false) (hX : XPr A s s.heap) (hno : (∀ x ∈ c.exceptionTable.toList, False) ∧ meth.locks = false) (h : f_X8_ofEdge_t nr a1 a2 a3 H = some res) : V p l e ({ frames := 6, cells := 1, slots := 6, locals := 82 }) s m args below meth c A s.heap (QX below args s A D K4 ad nr res) D K4 ad nr 5 0 [(0, .ref (ad 1 0)), (1, .int a1), (2, .int a2), (3, .int a3)] [] H := by
  unfold f_X8_ofEdge_t at h
  refine V_aload_n hC 0 dX8_ofEdge_0 rfl ?_
  refine V_iload_n hC 1 dX8_ofEdge_1 rfl ?_
  obtain ⟨w2, H1, hc, h⟩ := bnd_some h
  refine V_callq (g := 1) (k := 0) (As := [.int a1]) (st := []) hC (c_X8_routineAt l hc) rfl ml_X8_37 ⟨Nat.le_of_ble_eq_true rfl, Nat.le_of_ble_eq_true rfl⟩ rfl rfl rfl (Nat.le_of_ble_eq_true rfl) dX8_ofEdge_2 ?_
  refine V_astoreq (lv' := [(4, vr ad w2), (0, .ref (ad 1 0)), (1, .int a1), (2, .int a2), (3, .int a3)]) hC dX8_ofEdge_5 (Nat.le_of_ble_eq_true rfl) rfl ?_
  refine V_aloadq hC 0 dX8_ofEdge_7 rfl ?_
  replace h := nz_some h
  rcases h with ⟨rfl, h⟩ | ⟨r3, rfl, hr_r3, h⟩
  · refine V_ifnullN (tgt := 24) hC dX8_ofEdge_9 (by decide) ?_
    have h2 := Option.some.inj h
    subst h2
    exact V_throw1 (res := (1, H1)) (text := "no such edge") hC hl hX hno th_91_95 rfl (by decide) ⟨Nat.le_of_ble_eq_true rfl, Nat.le_of_ble_eq_true rfl, Nat.le_of_ble_eq_true rfl, Nat.le_of_ble_eq_true rfl⟩ rfl dX8_ofEdge_24 dX8_ofEdge_27 dX8_ofEdge_28 dX8_ofEdge_30 dX8_ofEdge_33
  · refine V_ifnullS (r := r3) hC dX8_ofEdge_9 ?_
    refine V_aload hC 0 dX8_ofEdge_12 rfl ?_
    refine V_getR (g := (r3 + 2)) (k := 0) (g' := (r3 + 2)) (k' := 1) hC 2 1 fl_X8_44 (okR hr_r3 rfl) rfl rfl rfl dX8_ofEdge_14 ?_
    refine V_iload_n hC 3 dX8_ofEdge_17 rfl ?_
    obtain ⟨w5, H4, hc, h⟩ := bnd_some h
    refine V_calli (g := (r3 + 2)) (k := 1) (As := [.int a2]) (st := []) hC (c_X3_hasEdge l (hr_r := hr_r3) hc) rfl ml_X8_62 ⟨Nat.le_of_ble_eq_true rfl, Nat.le_of_ble_eq_true rfl⟩ (okR hr_r3 rfl) rfl rfl (Nat.le_of_ble_eq_true rfl) dX8_ofEdge_18 ?_
    refine V_if_ne (tgt := 34) hC dX8_ofEdge_21 (by decide) (fun c6 => ?_) (fun c6 => ?_)
    · replace h := it_neg c6 h
      refine V_iload_n hC 4 dX8_ofEdge_34 rfl ?_
      refine V_if_lt (tgt := 44) hC dX8_ofEdge_35 (by decide) (fun c7 => ?_) (fun c7 => ?_)
      · replace h := it_pos c7 h
        have h2 := Option.some.inj h
        subst h2
        exact V_throw2 (res := (2, H4)) (text := "no such what of an edge") hC hl hX hno th_98_102 rfl (by decide) ⟨Nat.le_of_ble_eq_true rfl, Nat.le_of_ble_eq_true rfl, Nat.le_of_ble_eq_true rfl, Nat.le_of_ble_eq_true rfl⟩ rfl dX8_ofEdge_44 dX8_ofEdge_47 dX8_ofEdge_48 dX8_ofEdge_50 dX8_ofEdge_53
      · replace h := it_neg c7 h
        refine V_iload_n hC 4 dX8_ofEdge_38 rfl ?_
        refine V_bipush (v := 9) hC dX8_ofEdge_39 (by decide) ?_
        refine V_icmp_le (tgt := 54) hC dX8_ofEdge_41 (by decide) (fun c8 => ?_) (fun c8 => ?_)
        · replace h := it_pos c8 h
          refine V_iload_n hC 4 dX8_ofEdge_54 rfl ?_
          refine V_iconst (v := 4) hC dX8_ofEdge_55 (by decide) ?_
          refine V_icmp_ge (tgt := 72) hC dX8_ofEdge_56 (by decide) (fun c9 => ?_) (fun c9 => ?_)
          · replace h := it_pos c9 h
            refine V_aload hC 0 dX8_ofEdge_72 rfl ?_
            refine V_iload_n hC 3 dX8_ofEdge_74 rfl ?_
            refine V_iload_n hC 4 dX8_ofEdge_75 rfl ?_
            obtain ⟨w11, H10, hc, h⟩ := bnd_some h
            refine V_calll (g := (r3 + 2)) (k := 0) (As := [.int a2, .int a3]) (st := []) hC (c_X2_countOfEdge l (hr_r := hr_r3) hc) rfl ml_X8_115 ⟨Nat.le_of_ble_eq_true rfl, Nat.le_of_ble_eq_true rfl⟩ (okR hr_r3 rfl) rfl rfl (Nat.le_of_ble_eq_true rfl) dX8_ofEdge_76 ?_
            exact nomatch h
          · replace h := it_neg c9 h
            refine V_aload hC 0 dX8_ofEdge_59 rfl ?_
            refine V_getR (g := (r3 + 2)) (k := 0) (g' := (r3 + 2)) (k' := 1) hC 2 1 fl_X8_44 (okR hr_r3 rfl) rfl rfl rfl dX8_ofEdge_61 ?_
            refine V_iload_n hC 3 dX8_ofEdge_64 rfl ?_
            refine V_iload_n hC 4 dX8_ofEdge_65 rfl ?_
            obtain ⟨w13, H12, hc, h⟩ := bnd_some h
            refine V_calll (g := (r3 + 2)) (k := 1) (As := [.int a2, .int a3]) (st := []) hC (c_X3_shapeOfEdge l (hr_r := hr_r3) hc) rfl ml_X8_111 ⟨Nat.le_of_ble_eq_true rfl, Nat.le_of_ble_eq_true rfl⟩ (okR hr_r3 rfl) rfl rfl (Nat.le_of_ble_eq_true rfl) dX8_ofEdge_66 ?_
            refine V_goto (tgt := 79) hC dX8_ofEdge_69 (by decide) ?_
            exact nomatch h
        · replace h := it_neg c8 h
          have h2 := Option.some.inj h
          subst h2
          exact V_throw2 (res := (2, H4)) (text := "no such what of an edge") hC hl hX hno th_98_102 rfl (by decide) ⟨Nat.le_of_ble_eq_true rfl, Nat.le_of_ble_eq_true rfl, Nat.le_of_ble_eq_true rfl, Nat.le_of_ble_eq_true rfl⟩ rfl dX8_ofEdge_44 dX8_ofEdge_47 dX8_ofEdge_48 dX8_ofEdge_50 dX8_ofEdge_53
    · replace h := it_pos c6 h
      have h2 := Option.some.inj h
      subst h2
      exact V_throw1 (res := (1, H4)) (text := "no such edge") hC hl hX hno th_91_95 rfl (by decide) ⟨Nat.le_of_ble_eq_true rfl, Nat.le_of_ble_eq_true rfl, Nat.le_of_ble_eq_true rfl, Nat.le_of_ble_eq_true rfl⟩ rfl dX8_ofEdge_24 dX8_ofEdge_27 dX8_ofEdge_28 dX8_ofEdge_30 dX8_ofEdge_33
theorem t_X8_ofEdge_t (l : Launch) (hl : l.stackTraces = false) {nr : Nat} {a1 : Int32} {a2 : Int32} {a3 : Int32} {H : Hp} {x : Nat} {H' : Hp} (h : f_X8_ofEdge_t nr a1 a2 a3 H = some (x, H')) (D : va_G) (K4 : kQ) (ad : Nat → Nat → Nat) (sz : Nat) : vx_Met l yX8_ofEdge (.code yX8_ofEdge cX8_ofEdge 5 (some .long) :: GW) ({ frames := 6, cells := 1, slots := 6, locals := 82 }) (va_Pc [.ref (ad 1 0), .int a1, .int a2, .int a3] (fun U => PcB D K4 ad nr H sz U ∧ XPr (va_A (wl K4 ad nr H) sz) U U.heap)) (va_Ql (fun (_ : Int64) (_ : Unit) => False) (fun _ _ => True) (va_A (wl K4 ad nr H) sz)) (vx_X (fun _ : Unit => True) (fun E _ t => E = xn x ∧ Bw D K4 ad nr (va_A (wl K4 ad nr H) sz) H' t) (va_A (wl K4 ad nr H) sz)) 1 6 (va_A (wl K4 ad nr H) sz) := by
  refine vx_ofW (cc := cX8_ofEdge) (maxL := 5) (ret := (some .long)) (by decide) rfl ?_
  intro p e s m args below meth c s₁ B hml hno hv
  obtain ⟨rfl, ⟨rfl, hP, hK, hN, hD⟩, hX⟩ := hv
  have hts := atoms_spec (ws := (.code yX8_ofEdge cX8_ofEdge 5 (some .long) :: GW)) B.pre
  have hown : s.vm.findClass RX8 = some m.cls := findClass_of_methodNamed B.named
  have hls := lv_entry [.ref (ad 1 0), .int a1, .int a2, .int a3] (n := 5) (Nat.le_of_ble_eq_true rfl)
  rw [lg_entry_eq]
  exact s_X8_ofEdge_t ⟨B.exec, B.bytes, hml, hown, fun w hw => hts w (List.mem_cons_of_mem _ hw), hK, hN, fun q h => Or.inr h⟩ hl hX ⟨hno, B.notSynchronized⟩ h s.heap [] _ hP hD.self va_S.rf hls
def f_X8_ofBlock_t (nr : Nat) (a1 : Int32) (a2 : Int32) (a3 : Int32) (H : Hp) : Option (Nat × Hp) := bnd (f_X8_routineAt a1 H) (fun w2 H1 => nz nr w2 (some (1, H1)) (fun r3 => bnd (f_X3_hasBlock r3 a2 H1) (fun w5 H4 => if w5 = 0 then some (1, H4) else if a3 < 0 then some (2, H4) else if a3 ≤ 8 then if a3 = 8 then bnd (f_X6_openAt nr a1 a2 H4) (fun w16 H15 => none) else if 4 ≤ a3 then bnd (f_X2_countOfBlock r3 a2 a3 H4) (fun w12 H11 => none) else bnd (f_X3_shapeOfBlock r3 a2 a3 H4) (fun w14 H13 => none) else some (2, H4))))
set_option maxRecDepth 100000 in
set_option maxHeartbeats 4000000 in
theorem s_X8_ofBlock_t {p : Program} {l : Launch} {e : Env} {s : State} {m : MethodId} {args : Array Value} {below : List Frame} {meth : Method} {c : Code} {A : Nat → Prop} {D : va_G} {K4 : kQ} {ad : Nat → Nat → Nat} {nr : Nat} {a1 : Int32} {a2 : Int32} {a3 : Int32} {H : Hp} {res : Nat × Hp} (hC : Cx p s m args c A s.heap D K4 5 RX8 cX8_ofBlock) (hl : l.stackTraces = false) (hX : XPr A s s.heap) (hno : (∀ x ∈ c.exceptionTable.toList, False) ∧ meth.locks = false) (h : f_X8_ofBlock_t nr a1 a2 a3 H = some res) : V p l e ({ frames := 6, cells := 1, slots := 6, locals := 82 }) s m args below meth c A s.heap (QX below args s A D K4 ad nr res) D K4 ad nr 5 0 [(0, .ref (ad 1 0)), (1, .int a1), (2, .int a2), (3, .int a3)] [] H := by
  unfold f_X8_ofBlock_t at h
  refine V_aload_n hC 0 dX8_ofBlock_0 rfl ?_
  refine V_iload_n hC 1 dX8_ofBlock_1 rfl ?_
  obtain ⟨w2, H1, hc, h⟩ := bnd_some h
  refine V_callq (g := 1) (k := 0) (As := [.int a1]) (st := []) hC (c_X8_routineAt l hc) rfl ml_X8_37 ⟨Nat.le_of_ble_eq_true rfl, Nat.le_of_ble_eq_true rfl⟩ rfl rfl rfl (Nat.le_of_ble_eq_true rfl) dX8_ofBlock_2 ?_
  refine V_astoreq (lv' := [(4, vr ad w2), (0, .ref (ad 1 0)), (1, .int a1), (2, .int a2), (3, .int a3)]) hC dX8_ofBlock_5 (Nat.le_of_ble_eq_true rfl) rfl ?_
  refine V_aloadq hC 0 dX8_ofBlock_7 rfl ?_
  replace h := nz_some h
  rcases h with ⟨rfl, h⟩ | ⟨r3, rfl, hr_r3, h⟩
  · refine V_ifnullN (tgt := 24) hC dX8_ofBlock_9 (by decide) ?_
    have h2 := Option.some.inj h
    subst h2
    exact V_throw1 (res := (1, H1)) (text := "no such block") hC hl hX hno th_91_95 rfl (by decide) ⟨Nat.le_of_ble_eq_true rfl, Nat.le_of_ble_eq_true rfl, Nat.le_of_ble_eq_true rfl, Nat.le_of_ble_eq_true rfl⟩ rfl dX8_ofBlock_24 dX8_ofBlock_27 dX8_ofBlock_28 dX8_ofBlock_30 dX8_ofBlock_33
  · refine V_ifnullS (r := r3) hC dX8_ofBlock_9 ?_
    refine V_aload hC 0 dX8_ofBlock_12 rfl ?_
    refine V_getR (g := (r3 + 2)) (k := 0) (g' := (r3 + 2)) (k' := 1) hC 2 1 fl_X8_44 (okR hr_r3 rfl) rfl rfl rfl dX8_ofBlock_14 ?_
    refine V_iload_n hC 3 dX8_ofBlock_17 rfl ?_
    obtain ⟨w5, H4, hc, h⟩ := bnd_some h
    refine V_calli (g := (r3 + 2)) (k := 1) (As := [.int a2]) (st := []) hC (c_X3_hasBlock l (hr_r := hr_r3) hc) rfl ml_X8_118 ⟨Nat.le_of_ble_eq_true rfl, Nat.le_of_ble_eq_true rfl⟩ (okR hr_r3 rfl) rfl rfl (Nat.le_of_ble_eq_true rfl) dX8_ofBlock_18 ?_
    refine V_if_ne (tgt := 34) hC dX8_ofBlock_21 (by decide) (fun c6 => ?_) (fun c6 => ?_)
    · replace h := it_neg c6 h
      refine V_iload_n hC 4 dX8_ofBlock_34 rfl ?_
      refine V_if_lt (tgt := 44) hC dX8_ofBlock_35 (by decide) (fun c7 => ?_) (fun c7 => ?_)
      · replace h := it_pos c7 h
        have h2 := Option.some.inj h
        subst h2
        exact V_throw2 (res := (2, H4)) (text := "no such what of a block") hC hl hX hno th_98_102 rfl (by decide) ⟨Nat.le_of_ble_eq_true rfl, Nat.le_of_ble_eq_true rfl, Nat.le_of_ble_eq_true rfl, Nat.le_of_ble_eq_true rfl⟩ rfl dX8_ofBlock_44 dX8_ofBlock_47 dX8_ofBlock_48 dX8_ofBlock_50 dX8_ofBlock_53
      · replace h := it_neg c7 h
        refine V_iload_n hC 4 dX8_ofBlock_38 rfl ?_
        refine V_bipush (v := 8) hC dX8_ofBlock_39 (by decide) ?_
        refine V_icmp_le (tgt := 54) hC dX8_ofBlock_41 (by decide) (fun c8 => ?_) (fun c8 => ?_)
        · replace h := it_pos c8 h
          refine V_iload_n hC 4 dX8_ofBlock_54 rfl ?_
          refine V_bipush (v := 8) hC dX8_ofBlock_55 (by decide) ?_
          refine V_icmp_ne (tgt := 71) hC dX8_ofBlock_57 (by decide) (fun c9 => ?_) (fun c9 => ?_)
          · replace h := it_neg c9 h
            refine V_iload_n hC 4 dX8_ofBlock_71 rfl ?_
            refine V_iconst (v := 4) hC dX8_ofBlock_72 (by decide) ?_
            refine V_icmp_ge (tgt := 89) hC dX8_ofBlock_73 (by decide) (fun c10 => ?_) (fun c10 => ?_)
            · replace h := it_pos c10 h
              refine V_aload hC 0 dX8_ofBlock_89 rfl ?_
              refine V_iload_n hC 3 dX8_ofBlock_91 rfl ?_
              refine V_iload_n hC 4 dX8_ofBlock_92 rfl ?_
              obtain ⟨w12, H11, hc, h⟩ := bnd_some h
              refine V_calll (g := (r3 + 2)) (k := 0) (As := [.int a2, .int a3]) (st := []) hC (c_X2_countOfBlock l (hr_r := hr_r3) hc) rfl ml_X8_131 ⟨Nat.le_of_ble_eq_true rfl, Nat.le_of_ble_eq_true rfl⟩ (okR hr_r3 rfl) rfl rfl (Nat.le_of_ble_eq_true rfl) dX8_ofBlock_93 ?_
              exact nomatch h
            · replace h := it_neg c10 h
              refine V_aload hC 0 dX8_ofBlock_76 rfl ?_
              refine V_getR (g := (r3 + 2)) (k := 0) (g' := (r3 + 2)) (k' := 1) hC 2 1 fl_X8_44 (okR hr_r3 rfl) rfl rfl rfl dX8_ofBlock_78 ?_
              refine V_iload_n hC 3 dX8_ofBlock_81 rfl ?_
              refine V_iload_n hC 4 dX8_ofBlock_82 rfl ?_
              obtain ⟨w14, H13, hc, h⟩ := bnd_some h
              refine V_calll (g := (r3 + 2)) (k := 1) (As := [.int a2, .int a3]) (st := []) hC (c_X3_shapeOfBlock l (hr_r := hr_r3) hc) rfl ml_X8_128 ⟨Nat.le_of_ble_eq_true rfl, Nat.le_of_ble_eq_true rfl⟩ (okR hr_r3 rfl) rfl rfl (Nat.le_of_ble_eq_true rfl) dX8_ofBlock_83 ?_
              refine V_goto (tgt := 96) hC dX8_ofBlock_86 (by decide) ?_
              exact nomatch h
          · replace h := it_pos c9 h
            refine V_aload_n hC 1 dX8_ofBlock_60 rfl ?_
            refine V_getR (g := 1) (k := 0) (g' := 1) (k' := 2) hC 8 1 fl_X8_18 rfl rfl rfl rfl dX8_ofBlock_61 ?_
            refine V_iload_n hC 2 dX8_ofBlock_64 rfl ?_
            refine V_iload_n hC 3 dX8_ofBlock_65 rfl ?_
            obtain ⟨w16, H15, hc, h⟩ := bnd_some h
            refine V_calli (g := 1) (k := 2) (As := [.int a1, .int a2]) (st := []) hC (c_X6_openAt l hc) rfl ml_X8_125 ⟨Nat.le_of_ble_eq_true rfl, Nat.le_of_ble_eq_true rfl⟩ rfl rfl rfl (Nat.le_of_ble_eq_true rfl) dX8_ofBlock_66 ?_
            refine V_i2l hC dX8_ofBlock_69 ?_
            exact nomatch h
        · replace h := it_neg c8 h
          have h2 := Option.some.inj h
          subst h2
          exact V_throw2 (res := (2, H4)) (text := "no such what of a block") hC hl hX hno th_98_102 rfl (by decide) ⟨Nat.le_of_ble_eq_true rfl, Nat.le_of_ble_eq_true rfl, Nat.le_of_ble_eq_true rfl, Nat.le_of_ble_eq_true rfl⟩ rfl dX8_ofBlock_44 dX8_ofBlock_47 dX8_ofBlock_48 dX8_ofBlock_50 dX8_ofBlock_53
    · replace h := it_pos c6 h
      have h2 := Option.some.inj h
      subst h2
      exact V_throw1 (res := (1, H4)) (text := "no such block") hC hl hX hno th_91_95 rfl (by decide) ⟨Nat.le_of_ble_eq_true rfl, Nat.le_of_ble_eq_true rfl, Nat.le_of_ble_eq_true rfl, Nat.le_of_ble_eq_true rfl⟩ rfl dX8_ofBlock_24 dX8_ofBlock_27 dX8_ofBlock_28 dX8_ofBlock_30 dX8_ofBlock_33
theorem t_X8_ofBlock_t (l : Launch) (hl : l.stackTraces = false) {nr : Nat} {a1 : Int32} {a2 : Int32} {a3 : Int32} {H : Hp} {x : Nat} {H' : Hp} (h : f_X8_ofBlock_t nr a1 a2 a3 H = some (x, H')) (D : va_G) (K4 : kQ) (ad : Nat → Nat → Nat) (sz : Nat) : vx_Met l yX8_ofBlock (.code yX8_ofBlock cX8_ofBlock 5 (some .long) :: GW) ({ frames := 6, cells := 1, slots := 6, locals := 82 }) (va_Pc [.ref (ad 1 0), .int a1, .int a2, .int a3] (fun U => PcB D K4 ad nr H sz U ∧ XPr (va_A (wl K4 ad nr H) sz) U U.heap)) (va_Ql (fun (_ : Int64) (_ : Unit) => False) (fun _ _ => True) (va_A (wl K4 ad nr H) sz)) (vx_X (fun _ : Unit => True) (fun E _ t => E = xn x ∧ Bw D K4 ad nr (va_A (wl K4 ad nr H) sz) H' t) (va_A (wl K4 ad nr H) sz)) 1 6 (va_A (wl K4 ad nr H) sz) := by
  refine vx_ofW (cc := cX8_ofBlock) (maxL := 5) (ret := (some .long)) (by decide) rfl ?_
  intro p e s m args below meth c s₁ B hml hno hv
  obtain ⟨rfl, ⟨rfl, hP, hK, hN, hD⟩, hX⟩ := hv
  have hts := atoms_spec (ws := (.code yX8_ofBlock cX8_ofBlock 5 (some .long) :: GW)) B.pre
  have hown : s.vm.findClass RX8 = some m.cls := findClass_of_methodNamed B.named
  have hls := lv_entry [.ref (ad 1 0), .int a1, .int a2, .int a3] (n := 5) (Nat.le_of_ble_eq_true rfl)
  rw [lg_entry_eq]
  exact s_X8_ofBlock_t ⟨B.exec, B.bytes, hml, hown, fun w hw => hts w (List.mem_cons_of_mem _ hw), hK, hN, fun q h => Or.inr h⟩ hl hX ⟨hno, B.notSynchronized⟩ h s.heap [] _ hP hD.self va_S.rf hls
