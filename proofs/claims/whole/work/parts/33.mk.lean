/-- worlds in the making -/
def zc (K4 : kQ) (t n : Nat) : va_E := match t with
  | 0 => .inl (K4.1, n, .inl (fun _ => 0))
  | 1 => .inl (K4.2.1, n, .inr (.inl (fun _ => 0)))
  | 2 => .inl (K4.2.2.1, n, .inl (fun _ => 0))
  | _ => .inl (K4.2.2.2, n, .inr (.inr (.inr (.inr (fun _ => none)))))
def G (p : Program) (l : Launch) (e : Env) (R : Room) (s : State) (m : MethodId) (args : Array Value) (below : List Frame) (meth : Method) (c : Code) (A : Nat → Prop) (H0 : Heap) (Q : State → Prop) (D : va_G) (nL cs sl : Nat) (pc : Nat) (lv : List (Nat × Value)) (st : List Value) (ws : va_W) : Prop :=
  ∀ (Hh : Heap) (locs : List Loc) (ls : Array Slot), va_P D vwCl ws Hh → va_D A ws → va_S A H0 Hh locs → lv_has ls nL lv → W p l e R s m args below meth c Hh locs cs sl Q (F0 m pc ls st)
def FF (own : String) (idx ci j : Nat) (ty : FieldType) : Prop := ∃ (C : String) (T : u_T) (N : Nat) (ty0 : Nat → FieldType), vwCl[ci]? = some (C, T, N) ∧ j < N ∧ (∀ w ∈ u_ws C T N, w ∈ GW) ∧ Cond.fieldLink own idx (T j).1 (T j).2.1 (T j).2.2.1 ∈ GW ∧ (∀ k, k < N → parseFieldDescriptor (T k).2.2.1 = some (ty0 k)) ∧ (∀ a, a < N → ∀ b, b < N → a ≠ b → (T a).2.1 ≠ (T b).2.1) ∧ (T j).1 = own ∧ parseFieldDescriptor (T j).2.2.1 = some ty
def PkB (D : va_G) (K4 : kQ) (ws : va_W) (sz : Nat) (U : State) : Prop := U.heap.size = sz ∧ va_P D vwCl ws U.heap ∧ va_K D vwCl (tys4 K4) U ∧ (∀ w ∈ NW, va_Nw w U) ∧ va_D (fun _ => True) ws ∧ va_AO "CounterPlacer$Routine" U
theorem PkB_blind (D : va_G) (K4 : kQ) (ws : va_W) (sz : Nat) (as : List Value) : FrameBlind (va_Pc as (PkB D K4 ws sz)) := by
  intro a U g mk q
  obtain ⟨q0, q1, qP, qK, qN, qD, qO⟩ := q
  exact ⟨q0, q1, qP, va_K.moved (u := U) (U := U.calling g mk a) (Vm.Alike.refl U.vm) qK, fun w hw => va_Nw.same (u := U) (nw_on hw) rfl (qN w hw), qD, va_AO.moved (u := U) (U := U.calling g mk a) (Vm.Alike.refl U.vm) qO⟩
theorem va_nd_of {l : List Nat} (h : l.Nodup) : va_nd l = true := by
  induction l with
  | nil => rfl
  | cons a t ih =>
    rw [List.nodup_cons] at h
    show (decide (a ∉ t) && va_nd t) = true
    rw [decide_eq_true h.1, ih h.2]; rfl
theorem rng_all (ws : va_W) (x : va_W) : (List.range ws.length).map (fun i => (ws ++ x)[i]?) = ws.map some := by
  apply List.ext_getElem?
  intro i
  rw [List.getElem?_map, List.getElem?_map]
  by_cases hi : i < ws.length
  · rw [List.getElem?_range hi]
    show some ((ws ++ x)[i]?) = _
    rw [List.getElem?_append_left hi]
    rw [List.getElem?_eq_getElem hi]; rfl
  · rw [List.getElem?_eq_none (by simp; omega), List.getElem?_eq_none (by omega)]; rfl
/-- a constructor's contract: nq new addresses, the object's fields F, the other cells C -/
def KI (l : Launch) (y : MethodName) (cy : ByteArray) (ny fr mc ms lc : Nat) (av : List Value) (ci : Nat) (d : List Value) (nq : Nat) (Fn : List Nat → List Value) (Cn : kQ → List Nat → va_W) : Prop :=
  ∀ (D : va_G) (K4 : kQ) (h0 sz : Nat), Met l y (.code y cy ny none :: GW) ({ frames := fr, cells := mc, slots := ms, locals := lc }) (va_Pc (.ref h0 :: av) (PkB D K4 [(h0, .inr (ci, d))] sz)) (va_Qv (fun u : List Nat => u.length = nq) (fun u t => va_P D vwCl ((h0, .inr (ci, Fn u)) :: Cn K4 u) t.heap ∧ va_D (va_A [(h0, .inr (ci, d))] sz) ((h0, .inr (ci, Fn u)) :: Cn K4 u)) (va_A [(h0, .inr (ci, d))] sz)) mc ms (va_A [(h0, .inr (ci, d))] sz)
section
variable {p : Program} {l : Launch} {e : Env} {R : Room} {s : State} {m : MethodId} {args : Array Value} {below : List Frame} {meth : Method} {c : Code} {A : Nat → Prop} {H0 : Heap} {Q : State → Prop} {D : va_G} {K4 : kQ} {nL cs sl : Nat} {own : String} {cc : ByteArray} {pc : Nat} {lv lv' : List (Nat × Value)} {st : List Value} {ws : va_W}
theorem G_bipush (hC : Cx p s m args c A H0 D K4 nL own cc) {n : Int} {v : Int32} (hdg : decode cc pc = .ok (.bipush n, 2)) (hv : (Int8.ofInt n).toInt32 = v) (kk : G p l e R s m args below meth c A H0 Q D nL cs sl (pc + 2) lv (.int v :: st) ws) : G p l e R s m args below meth c A H0 Q D nL cs sl pc lv st ws :=
  fun Hh locs ls hP hD hS hl => lv_bipush hC.1 hC.2.1 hdg hv (kk Hh locs ls hP hD hS hl)
theorem G_sipush (hC : Cx p s m args c A H0 D K4 nL own cc) {n : Int} {v : Int32} (hdg : decode cc pc = .ok (.sipush n, 3)) (hv : (Int16.ofInt n).toInt32 = v) (kk : G p l e R s m args below meth c A H0 Q D nL cs sl (pc + 3) lv (.int v :: st) ws) : G p l e R s m args below meth c A H0 Q D nL cs sl pc lv st ws :=
  fun Hh locs ls hP hD hS hl => lv_sipush hC.1 hC.2.1 hdg hv (kk Hh locs ls hP hD hS hl)
theorem G_iconst (hC : Cx p s m args c A H0 D K4 nL own cc) {n : Int} {v : Int32} (hdg : decode cc pc = .ok (.iconst n, 1)) (hv : Int32.ofInt n = v) (kk : G p l e R s m args below meth c A H0 Q D nL cs sl (pc + 1) lv (.int v :: st) ws) : G p l e R s m args below meth c A H0 Q D nL cs sl pc lv st ws :=
  fun Hh locs ls hP hD hS hl => lv_iconst hC.1 hC.2.1 hdg hv (kk Hh locs ls hP hD hS hl)
theorem G_iload_n (hC : Cx p s m args c A H0 D K4 nL own cc) {i : Fin 4} {x : Int32} (k : Nat) (hdg : decode cc pc = .ok (.iload_n i, 1)) (hv : lv[k]? = some ((i : Nat), .int x)) (kk : G p l e R s m args below meth c A H0 Q D nL cs sl (pc + 1) lv (.int x :: st) ws) : G p l e R s m args below meth c A H0 Q D nL cs sl pc lv st ws :=
  fun Hh locs ls hP hD hS hl => lv_iload_n hC.1 hC.2.1 hdg rfl (lv_at hl k hv) (kk Hh locs ls hP hD hS hl)
theorem G_aload_n (hC : Cx p s m args c A H0 D K4 nL own cc) {i : Fin 4} {x : Nat} (k : Nat) (hdg : decode cc pc = .ok (.aload_n i, 1)) (hv : lv[k]? = some ((i : Nat), .ref x)) (kk : G p l e R s m args below meth c A H0 Q D nL cs sl (pc + 1) lv (.ref x :: st) ws) : G p l e R s m args below meth c A H0 Q D nL cs sl pc lv st ws :=
  fun Hh locs ls hP hD hS hl => lv_aload_n hC.1 hC.2.1 hdg rfl (lv_at hl k hv) (kk Hh locs ls hP hD hS hl)
theorem G_aload (hC : Cx p s m args c A H0 D K4 nL own cc) {i : Nat} {x : Nat} (k : Nat) (hdg : decode cc pc = .ok (.aload i, 2)) (hv : lv[k]? = some (i, .ref x)) (kk : G p l e R s m args below meth c A H0 Q D nL cs sl (pc + 2) lv (.ref x :: st) ws) : G p l e R s m args below meth c A H0 Q D nL cs sl pc lv st ws :=
  fun Hh locs ls hP hD hS hl => lv_aload hC.1 hC.2.1 hdg (lv_at hl k hv) (kk Hh locs ls hP hD hS hl)
theorem G_astore_n (hC : Cx p s m args c A H0 D K4 nL own cc) {i : Fin 4} {x : Nat} (hdg : decode cc pc = .ok (.astore_n i, 1)) (hn : (i : Nat) < nL) (hl' : ((i : Nat), Value.ref x) :: lv.filter (fun q => !(q.1 == (i : Nat)) && !(q.1 + 1 == (i : Nat) && q.2.category == 2)) = lv') (kk : G p l e R s m args below meth c A H0 Q D nL cs sl (pc + 1) lv' st ws) : G p l e R s m args below meth c A H0 Q D nL cs sl pc lv (.ref x :: st) ws :=
  fun Hh locs ls hP hD hS hl => lv_astore_n hC.1 hC.2.1 hdg rfl hl hn hl' (fun ls' hl2 => kk Hh locs ls' hP hD hS hl2)
theorem G_dup (hC : Cx p s m args c A H0 D K4 nL own cc) {v : Value} (hdg : decode cc pc = .ok (.dup, 1)) (hc : v.category = 1) (kk : G p l e R s m args below meth c A H0 Q D nL cs sl (pc + 1) lv (v :: v :: st) ws) : G p l e R s m args below meth c A H0 Q D nL cs sl pc lv (v :: st) ws :=
  fun Hh locs ls hP hD hS hl => lv_dup hC.1 hC.2.1 hdg hc (kk Hh locs ls hP hD hS hl)
theorem G_obj (hC : Cx p s m args c A H0 D K4 nL own cc) {idx a : Nat} (hw : ∀ w ∈ ([Cond.methodLink own idx Lib.objectInit, Cond.instanceMethod Lib.objectInit, Cond.code Lib.objectInit ⟨#[0xb1]⟩ 1 none] : List Cond), w ∈ GW) (hR : 1 ≤ R.frames ∧ (st.map fun v => v.category).sum + 12 ≤ R.locals) (hdg : decode cc pc = .ok (.invokespecial idx, 3)) (kk : G p l e R s m args below meth c A H0 Q D nL cs sl (pc + 3) lv st ws) : G p l e R s m args below meth c A H0 Q D nL cs sl pc lv (.ref a :: st) ws :=
  fun Hh locs ls hP hD hS hl => W.objInit hC.1 hC.2.1 hC.2.2.2.1 (hC.2.2.2.2.1 _ (hw _ (by simp))) (hC.2.2.2.2.1 _ (hw _ (by simp))) (hC.2.2.2.2.1 _ (hw _ (by simp))) rfl (by rw [hC.2.2.1]; exact hl.1) rfl hdg hR.1 (Nat.le_trans (by show 2 * 0 + _ + 12 ≤ _; omega) hR.2) (kk Hh locs ls hP hD hS hl)
theorem ra_eq {tys : List (ClassId × FieldType)} {cA cB : ClassId} {ty : FieldType} {i : Nat} (h1 : va_RA s cA ty) (h2 : va_RA s cB ty) : cA = cB := by
  cases ty with
  | object C =>
    obtain ⟨_, _, -, -, -, a⟩ := h1
    obtain ⟨_, _, -, -, -, b⟩ := h2
    exact Option.some.inj (a.symm.trans b)
  | _ => exact Option.some.inj (Eq.trans (Eq.symm (show _ = some cA from h1)) (show _ = some cB from h2))
theorem G_newI (hC : Cx p s m args c A H0 D K4 nL own cc) {N' : Nat} {n : Int32} (hw : Cond.arrayClass .int ∈ GW) (hn : ¬ n < 0) (hN : n.toNatClampNeg = N') (hb : N' ≤ 10000) (hc : cs + 1 ≤ R.cells ∧ sl + N' ≤ R.slots) (hdg : decode cc pc = .ok (.newarray .int, 2)) (kk : ∀ q, G p l e R s m args below meth c A H0 Q D nL (cs + 1) (sl + N') (pc + 2) lv (.ref q :: st) (ws ++ [(q, zc K4 0 N')])) : G p l e R s m args below meth c A H0 Q D nL cs sl pc lv (.int n :: st) ws := by
  intro Hh locs ls hP hD hS hl
  refine va_newa (atype := .int) hC.1 hC.2.1 (hC.2.2.2.2.1 _ hw) rfl hC.2.2.2.2.2.1 hP hD hS hC.2.2.2.2.2.2.2 (a0 := (N', .inl (fun _ => 0))) (fun cA => rfl) hn hN (by show N' * 4 ≤ _; omega) hc.1 hc.2 hdg (fun q cA H1 hK1 hP1 hD1 hS1 => ?_)
  have hcA : cA = K4.1 := ra_eq (tys := []) (i := 0) (hK1.2 4 (cA, .int) rfl).2 (hC.2.2.2.2.2.1.2 0 (K4.1, .int) rfl).2
  subst hcA
  exact kk q H1 locs ls hP1 hD1 hS1 hl
theorem G_newJ (hC : Cx p s m args c A H0 D K4 nL own cc) {N' : Nat} {n : Int32} (hw : Cond.arrayClass .long ∈ GW) (hn : ¬ n < 0) (hN : n.toNatClampNeg = N') (hb : N' ≤ 10000) (hc : cs + 1 ≤ R.cells ∧ sl + N' ≤ R.slots) (hdg : decode cc pc = .ok (.newarray .long, 2)) (kk : ∀ q, G p l e R s m args below meth c A H0 Q D nL (cs + 1) (sl + N') (pc + 2) lv (.ref q :: st) (ws ++ [(q, zc K4 1 N')])) : G p l e R s m args below meth c A H0 Q D nL cs sl pc lv (.int n :: st) ws := by
  intro Hh locs ls hP hD hS hl
  refine va_newa (atype := .long) hC.1 hC.2.1 (hC.2.2.2.2.1 _ hw) rfl hC.2.2.2.2.2.1 hP hD hS hC.2.2.2.2.2.2.2 (a0 := (N', .inr (.inl (fun _ => 0)))) (fun cA => rfl) hn hN (by show N' * 8 ≤ _; omega) hc.1 hc.2 hdg (fun q cA H1 hK1 hP1 hD1 hS1 => ?_)
  have hcA : cA = K4.2.1 := ra_eq (tys := []) (i := 0) (hK1.2 4 (cA, .long) rfl).2 (hC.2.2.2.2.2.1.2 1 (K4.2.1, .long) rfl).2
  subst hcA
  exact kk q H1 locs ls hP1 hD1 hS1 hl
theorem G_newZ (hC : Cx p s m args c A H0 D K4 nL own cc) {N' : Nat} {n : Int32} (hw : Cond.arrayClass .boolean ∈ GW) (hn : ¬ n < 0) (hN : n.toNatClampNeg = N') (hb : N' ≤ 10000) (hc : cs + 1 ≤ R.cells ∧ sl + N' ≤ R.slots) (hdg : decode cc pc = .ok (.newarray .boolean, 2)) (kk : ∀ q, G p l e R s m args below meth c A H0 Q D nL (cs + 1) (sl + N') (pc + 2) lv (.ref q :: st) (ws ++ [(q, zc K4 2 N')])) : G p l e R s m args below meth c A H0 Q D nL cs sl pc lv (.int n :: st) ws := by
  intro Hh locs ls hP hD hS hl
  refine va_newa (atype := .boolean) hC.1 hC.2.1 (hC.2.2.2.2.1 _ hw) rfl hC.2.2.2.2.2.1 hP hD hS hC.2.2.2.2.2.2.2 (a0 := (N', .inl (fun _ => 0))) (fun cA => rfl) hn hN (by show N' * 1 ≤ _; omega) hc.1 hc.2 hdg (fun q cA H1 hK1 hP1 hD1 hS1 => ?_)
  have hcA : cA = K4.2.2.1 := ra_eq (tys := []) (i := 0) (hK1.2 4 (cA, .boolean) rfl).2 (hC.2.2.2.2.2.1.2 2 (K4.2.2.1, .boolean) rfl).2
  subst hcA
  exact kk q H1 locs ls hP1 hD1 hS1 hl
theorem G_newQ (hC : Cx p s m args c A H0 D K4 nL own cc) {N' idx : Nat} {n : Int32} (hw : Cond.classLink own idx "CounterPlacer$Routine" ∈ GW) (ho : va_AO "CounterPlacer$Routine" s) (hn : ¬ n < 0) (hN : n.toNatClampNeg = N') (hb : N' ≤ 10000) (hc : cs + 1 ≤ R.cells ∧ sl + N' ≤ R.slots) (hdg : decode cc pc = .ok (.anewarray idx, 3)) (kk : ∀ q, G p l e R s m args below meth c A H0 Q D nL (cs + 1) (sl + N') (pc + 3) lv (.ref q :: st) (ws ++ [(q, zc K4 3 N')])) : G p l e R s m args below meth c A H0 Q D nL cs sl pc lv (.int n :: st) ws := by
  intro Hh locs ls hP hD hS hl
  refine va_newq hC.1 hC.2.1 hC.2.2.2.1 (hC.2.2.2.2.1 _ hw) ho hC.2.2.2.2.2.1 hP hD hS hC.2.2.2.2.2.2.2 hn hN (by omega) hc.1 hc.2 hdg (fun q cA H1 hK1 hP1 hD1 hS1 => ?_)
  have hcA : cA = K4.2.2.2 := ra_eq (tys := []) (i := 0) (hK1.2 4 (cA, .object "CounterPlacer$Routine") rfl).2 (hC.2.2.2.2.2.1.2 3 (K4.2.2.2, .object "CounterPlacer$Routine") rfl).2
  subst hcA
  exact kk q H1 locs ls hP1 hD1 hS1 hl
theorem G_new (hC : Cx p s m args c A H0 D K4 nL own cc) {idx ci N : Nat} {C : String} {T : u_T} {ty : Nat → FieldType} {fs : List Value} (hcl : vwCl[ci]? = some (C, T, N)) (hu : ∀ w ∈ u_ws C T N, w ∈ GW) (hty : ∀ k, k < N → parseFieldDescriptor (T k).2.2.1 = some (ty k)) (hw : ∀ w ∈ ([Cond.classLink own idx C, Cond.instantiable C N, Cond.initialized C] : List Cond), w ∈ GW) (hfs : ∀ j, j < N → defaultValue (ty j) = vp_V fs j) (hc : cs + 1 ≤ R.cells ∧ sl + N ≤ R.slots) (hdg : decode cc pc = .ok (.new idx, 3)) (kk : ∀ q, G p l e R s m args below meth c A H0 Q D nL (cs + 1) (sl + N) (pc + 3) lv (.ref q :: st) (ws ++ [(q, .inr (ci, fs))])) : G p l e R s m args below meth c A H0 Q D nL cs sl pc lv st ws := by
  intro Hh locs ls hP hD hS hl
  exact va_new hC.1 hC.2.1 hC.2.2.2.2.1 hu ty hty hC.2.2.2.1 (hC.2.2.2.2.1 _ (hw _ (by simp))) (hC.2.2.2.2.1 _ (hw _ (by simp))) (hC.2.2.2.2.1 _ (hw _ (by simp))) hC.2.2.2.2.2.1 hP hD hS hC.2.2.2.2.2.2.2 hcl hfs hc.1 hc.2 hdg (fun q H1 hP1 hD1 hS1 => kk q H1 locs ls hP1 hD1 hS1 hl)
theorem G_putF (hC : Cx p s m args c A H0 D K4 nL own cc) {idx ci j h0 : Nat} {ty : FieldType} {v : Value} {fs : List Value} (hF : FF own idx ci j ty) (hfin : ∀ C T N, vwCl[ci]? = some (C, T, N) → (T j).2.2.2 = true) (hin : meth.name = "<init>") (hn : narrow ty v = v) (hfit : fits ty v = true) (hl0 : j < fs.length) (hdg : decode cc pc = .ok (.putfield idx, 3)) (kk : G p l e R s m args below meth c A H0 Q D nL cs sl (pc + 3) lv st ((h0, .inr (ci, fs.set j v)) :: ws)) : G p l e R s m args below meth c A H0 Q D nL cs sl pc lv (v :: .ref h0 :: st) ((h0, .inr (ci, fs)) :: ws) := by
  intro Hh locs ls hP hD hS hl
  obtain ⟨C, T, N, ty0, h1, h2, h3, h4, h5, h6, h7, h8⟩ := hF
  exact va_putF hC.1 hC.2.1 hC.2.2.2.2.1 h3 ty0 h5 h6 hC.2.2.2.1 hC.2.2.2.2.2.1 hP hD hS 0 (ci := ci) (fs := fs) rfl h1 j h2 (hC.2.2.2.2.1 _ h4) (fun x h => h) (hfin C T N h1) hin h7 h8 hn hfit hl0 hdg (fun H1 locs1 a1 a2 a3 => kk H1 locs1 ls a1 a2 a3 hl)
theorem G_putN (hC : Cx p s m args c A H0 D K4 nL own cc) {idx ci j h0 : Nat} {ty : FieldType} {v : Value} {fs : List Value} (hF : FF own idx ci j ty) (hfin : ∀ C T N, vwCl[ci]? = some (C, T, N) → (T j).2.2.2 = false) (hn : narrow ty v = v) (hfit : fits ty v = true) (hl0 : j < fs.length) (hdg : decode cc pc = .ok (.putfield idx, 3)) (kk : G p l e R s m args below meth c A H0 Q D nL cs sl (pc + 3) lv st ((h0, .inr (ci, fs.set j v)) :: ws)) : G p l e R s m args below meth c A H0 Q D nL cs sl pc lv (v :: .ref h0 :: st) ((h0, .inr (ci, fs)) :: ws) := by
  intro Hh locs ls hP hD hS hl
  obtain ⟨C, T, N, ty0, h1, h2, h3, h4, h5, h6, h7, h8⟩ := hF
  exact va_put hC.1 hC.2.1 hC.2.2.2.2.1 h3 ty0 h5 h6 hC.2.2.2.1 hC.2.2.2.2.2.1 hP hD hS 0 (ci := ci) (fs := fs) rfl h1 j h2 (hC.2.2.2.2.1 _ h4) (fun x h => h) (hfin C T N h1) h8 hn hfit hl0 hdg (fun H1 locs1 a1 a2 a3 => kk H1 locs1 ls a1 a2 a3 hl)
/-- a link to a constructor with n parameters: plain, or of a nest mate -/
def LI (own : String) (idx : Nat) (y : MethodName) (cy : ByteArray) (ny n : Nat) : Prop := (Cond.methodLink own idx y ∈ GW ∨ Cond.methodLinkNest own idx y "CounterPlacer" ∈ NW) ∧ (∀ w ∈ ([.instanceMethod y, .initialized y.cls, .code y cy ny none] : List Cond), w ∈ GW) ∧ y.name = "<init>" ∧ (y.cls ≠ "java/lang/invoke/MethodHandle" ∧ y.cls ≠ "java/lang/invoke/VarHandle" ∧ (parseMethodDescriptor y.desc).map (fun d => d.parameters.length) = some n)
theorem G_ctor (hC : Cx p s m args c A H0 D K4 nL own cc) (hao : va_AO "CounterPlacer$Routine" s) {idx : Nat} {y : MethodName} {cy : ByteArray} {ny n fr mc ms lc ci nq q : Nat} {av d : List Value} {Fn : List Nat → List Value} {Cn : kQ → List Nat → va_W} (hM : KI l y cy ny fr mc ms lc av ci d nq Fn Cn) (hL : LI own idx y cy ny n) (hR : fr + 1 ≤ R.frames ∧ 8 + (ny + 11) + lc ≤ R.locals) (hn : av.length = n) (hW : (st.map fun v => v.category).sum ≤ 8) (hcs : cs + mc ≤ R.cells ∧ sl + ms ≤ R.slots) (hdg : decode cc pc = .ok (.invokespecial idx, 3)) (kk : ∀ u : List Nat, u.length = nq → G p l e R s m args below meth c A H0 Q D nL (cs + mc) (sl + ms) (pc + 3) lv st (ws ++ ((q, .inr (ci, Fn u)) :: Cn K4 u))) : G p l e R s m args below meth c A H0 Q D nL cs sl pc lv (av.reverse ++ .ref q :: st) (ws ++ [(q, .inr (ci, d))]) := by
  intro Hh locs ls hP hD hS hl
  have e1 : [ws.length].map (fun i => (ws ++ [(q, Sum.inr (ci, d))])[i]?) = ([(q, Sum.inr (ci, d))] : va_W).map some := by simp
  have e1' : [ws.length].filterMap (fun i => (ws ++ [(q, Sum.inr (ci, d))])[i]?) = ([(q, Sum.inr (ci, d))] : va_W) := by simp
  have hPc : va_P D vwCl [(q, .inr (ci, d))] Hh := hP.sub [ws.length] e1'
  have hDc : va_D A [(q, .inr (ci, d))] := hD.sub [ws.length] rfl e1
  have hFc : ∀ x, va_A [(q, .inr (ci, d))] Hh.size x → A x := va_free (wc := [(q, .inr (ci, d))]) hD hS hC.2.2.2.2.2.2.2 [ws.length] e1
  have hG : GoodIn GW (.code y cy ny none :: GW) := gsub (fun w hw => (List.mem_cons.mp hw).elim (fun q => hL.2.1 w (by simp [q])) (fun q => q))
  have hpre : PreS s Hh (va_Pc (.ref q :: av) (PkB D K4 [(q, .inr (ci, d))] Hh.size)) (.ref q :: av) := ⟨PkB_blind _ _ _ _ _, fun U hU hW2 => ⟨rfl, by rw [hU], by rw [hU]; exact hPc, va_K.moved hW2.alike hC.2.2.2.2.2.1, fun w hw => nw_warm hw hW2 (hC.2.2.2.2.2.2.1 w hw), hDc.weaken (fun _ _ _ _ => trivial), va_AO.moved hW2.alike hao⟩⟩
  have hrun : va_Run p l e R s m args below meth c Hh locs cs sl mc ms (F0 m pc ls (av.reverse ++ .ref q :: st)) st (va_Qv (fun u : List Nat => u.length = nq) (fun u t => va_P D vwCl ((q, .inr (ci, Fn u)) :: Cn K4 u) t.heap ∧ va_D (va_A [(q, .inr (ci, d))] Hh.size) ((q, .inr (ci, Fn u)) :: Cn K4 u)) (va_A [(q, .inr (ci, d))] Hh.size) (Value.ref q :: av).toArray) (va_A [(q, .inr (ci, d))] Hh.size) := by
    rcases hL.1 with h1 | h1
    · exact va_runI (As := av) (rest := st) ⟨hC.1, hC.2.1, hC.2.2.1, hC.2.2.2.1, hC.2.2.2.2.1⟩ (hM D K4 q Hh.size) (cwI n hC.2.2.2.2.1 hG rfl rfl rfl (hC.2.2.2.2.1 _ (hL.2.1 _ (by simp))) (hC.2.2.2.2.1 _ h1) (hC.2.2.2.2.1 _ (hL.2.1 _ (by simp))) hL.2.2.1 hL.2.2.2 hR) hpre rfl hn hl.1 rfl (lv_room hW) hdg hcs
    · exact va_runIN (As := av) (rest := st) ⟨hC.1, hC.2.1, hC.2.2.1, hC.2.2.2.1, hC.2.2.2.2.1⟩ (hM D K4 q Hh.size) ⟨va_cnB n hC.2.2.2.2.1 hG rfl rfl rfl (hC.2.2.2.2.2.2.1 _ h1) (hC.2.2.2.2.1 _ (hL.2.1 _ (by simp))) hL.2.2.2 hR, hL.2.2.1, hC.2.2.2.2.1 _ (hL.2.1 _ (by simp))⟩ hpre rfl hn hl.1 rfl (lv_room hW) hdg hcs
  refine va_callv hrun hS (fun x _ h => hFc x h) hFc (fun u t H1 locs1 ht hvm hw hB hz1 hk1 hS1 => ?_)
  obtain ⟨hP1, hD1⟩ := hB
  rw [ht] at hP1
  obtain ⟨hP2, hD2⟩ := va_join (wr := ws) (w1 := (q, .inr (ci, Fn u)) :: Cn K4 u) hP hD [ws.length] (List.range ws.length) e1 (rng_all ws _) (va_nd_of List.nodup_range) (fun i hi h2 => by simp at hi h2; omega) hk1 hFc hP1 hD1
  exact kk u hw H1 locs1 ls hP2 hD2 hS1 hl
theorem G_vret (hC : Cx p s m args c A s.heap D K4 nL own cc) {S : Type} {post : S → Prop} {B : S → State → Prop} (u : S) (hr : meth.sig.returnType = none ∧ meth.locks = false) (hdg : decode cc pc = .ok (.return_, 1)) (hp : post u) (hB : ∀ t : State, va_P D vwCl ws t.heap → va_D A ws → B u t) : G p l e R s m args below meth c A s.heap (MQ below (va_Qv post B A) args s cs sl A) D nL cs sl pc lv [] ws := by
  intro Hh locs ls hP hD hS hl
  have hlocks := hr.2
  exact W.vret hC.1 hC.2.1 hr.1 (fun t ht _ => ⟨⟨u, rfl, hp, hB t (by rw [ht]; exact hP) hD⟩, hS.F ht⟩) hS.2.2 hdg
theorem G_rret (hC : Cx p s m args c A s.heap D K4 nL own cc) {S : Type} {C : String} {post : S → Prop} {B : S → Nat → State → Prop} {a : Nat} (u : S) (hr : meth.sig.returnType = some (.object C) ∧ meth.locks = false) (hdg : decode cc pc = .ok (.areturn, 1)) (hp : post u) (hB : ∀ t : State, va_P D vwCl ws t.heap → va_D A ws → B u a t) : G p l e R s m args below meth c A s.heap (MQ below (va_Qr post B A) args s cs sl A) D nL cs sl pc lv [.ref a] ws := by
  intro Hh locs ls hP hD hS hl
  have hlocks := hr.2
  exact W.aret hC.1 hC.2.1 hr.1 (Or.inl ⟨_, rfl⟩) (Or.inr ⟨_, rfl⟩) (fun t ht _ => ⟨⟨u, a, rfl, hp, hB t (by rw [ht]; exact hP) hD⟩, hS.F ht⟩) hS.2.2 hdg
theorem KI.ofG {y : MethodName} {cy : ByteArray} {ny fr mc ms lc ci nq : Nat} {av d : List Value} {Fn : List Nat → List Value} {Cn : kQ → List Nat → va_W} (hy : plainName y.cls = true) (hyn : y.name = "<init>") (hlen : ∀ h0, (lg_sl (.ref h0 :: av)).length ≤ ny)
    (body : ∀ (p : Program) (e : Env) (s : State) (m : MethodId) (args : Array Value) (below : List Frame) (meth : Method) (c : Code) (D : va_G) (K4 : kQ) (h0 : Nat), Cx p s m args c (va_A [(h0, .inr (ci, d))] s.heap.size) s.heap D K4 ny y.cls cy → meth.name = "<init>" → meth.sig.returnType = none ∧ meth.locks = false → va_AO "CounterPlacer$Routine" s → G p l e ({ frames := fr, cells := mc, slots := ms, locals := lc }) s m args below meth c (va_A [(h0, .inr (ci, d))] s.heap.size) s.heap (MQ below (va_Qv (fun u : List Nat => u.length = nq) (fun u t => va_P D vwCl ((h0, .inr (ci, Fn u)) :: Cn K4 u) t.heap ∧ va_D (va_A [(h0, .inr (ci, d))] s.heap.size) ((h0, .inr (ci, Fn u)) :: Cn K4 u)) (va_A [(h0, .inr (ci, d))] s.heap.size)) args s mc ms (va_A [(h0, .inr (ci, d))] s.heap.size)) D ny 0 0 0 (lv_args 0 (.ref h0 :: av)) [] [(h0, .inr (ci, d))]) :
    KI l y cy ny fr mc ms lc av ci d nq Fn Cn := by
  intro D K4 h0 sz
  refine Met.ofW (cc := cy) (maxL := ny) (ret := none) hy rfl ?_
  intro p e s m args below meth c s₁ B hml hv
  obtain ⟨rfl, rfl, hP, hK, hN, hD, hao⟩ := hv
  have hts := atoms_spec (ws := (.code y cy ny none :: GW)) B.pre
  have hown : s.vm.findClass y.cls = some m.cls := findClass_of_methodNamed B.named
  have hin : meth.name = "<init>" := (name_of_methodNamed B.named B.method).1.trans hyn
  have hl := lv_entry (.ref h0 :: av) (n := ny) (hlen h0)
  rw [lg_entry_eq]
  exact body p e s m _ below meth c D K4 h0 ⟨B.exec, B.bytes, hml, hown, fun w hw => hts w (List.mem_cons_of_mem _ hw), hK, hN, fun q h => Or.inr h⟩ hin ⟨B.returns, B.notSynchronized⟩ hao s.heap [] _ hP hD.self va_S.rf hl
end

