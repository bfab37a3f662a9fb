/-- a throw of NoSuchElementException, whose constructor calls up by entry 13 -/
def six13 : ByteArray := ⟨#[0x2a, 0x2b, 0xb7, 0x00, 0x0d, 0xb1]⟩
def nxUp : List String := ["java/lang/RuntimeException", "java/lang/Exception"]
def xAtoms (own : String) (ic : Nat) (X : String) : List Cond := Bundle.ownAtomsX own ic X 13 six13 nxUp
/-- a method that no class below has in its place -/
theorem nx_sel {l : Launch} {e : Env} (ha : l.admits e) {args : Array Value} {s : State} {C : String} {c : ClassId} (hC : s.vm.findClass C = some c) {x : MethodName} {m : MethodId} (hm : s.methodNamed? x = some m) (hx : x.cls ≠ "java/lang/invoke/MethodHandle" ∧ x.cls ≠ "java/lang/invoke/VarHandle") (w : (Cond.selects C x x).before args s = true) : selectMethod e.platform s.vm c m = .method m := by
  obtain ⟨c', r, m', h1, h2, h3, h4, _⟩ := Cond.selects_spec (show (Cond.selects C x x).holds args s none s [] = true from w)
  have h2 := h2.symm.trans (State.methodFound?_of_named hm hx)
  have h3 := h3.symm.trans hm
  have h1 := h1.symm.trans hC
  cases h1; cases h2; cases h3
  rw [Launch.admits_selectMethod ha, h4]
/-- a fourth slot of a new exception is null still when three others are written -/
theorem nx_null {T : ThrowableT} {c : ClassId} {k : Class} {f : Field} (hy : k.instanceTypes[f.slot]? = some f.type) (ho : f.type = .object "java/lang/Object") (h1 : f.slot ≠ T.fCause.slot) (h2 : f.slot ≠ T.fStack.slot) (h3 : f.slot ≠ T.fSupp.slot) (a : Addr) (u n : RefV) (q : ThreadId) : ((preparedCellV T (freshCell c k) a u n).withEntry q).slots[f.slot]? = some .null := by
  show ((((freshCell c k).slots.setIfInBounds T.fCause.slot (.ref a)).setIfInBounds T.fStack.slot u.v).setIfInBounds T.fSupp.slot n.v)[f.slot]? = some .null
  rw [Array.getElem?_setIfInBounds_ne h3.symm, Array.getElem?_setIfInBounds_ne h2.symm, Array.getElem?_setIfInBounds_ne h1.symm, fresh_default hy, ho]
  rfl
/-- what the words say of a class X of exceptions: Throwable's tables T Z M, the constructors P, Ps, the statics u, n -/
def NX (pl : Platform) (s : State) (X : String) (cX : ClassId) (kX : Class) (T : ThrowableC) (Z : Init0T) (M : MsgC) (P : PassC) (Ps : List PassC) (cs : Cell) (u n : RefV) : Prop :=
  (T.Links pl s ∧ Z.LaidS T.toThrowableT ∧ M.Links T pl s ∧ T.codeObj.maxLocals = 1) ∧
  (Ps.length = 2 ∧ (∀ Q ∈ P :: Ps, Q.LinksS pl s) ∧ PassesOn (Z.m T.toThrowableT) ((P :: Ps).map (·.toPassT)) ∧ s.methodNamed? (Bundle.initS X) = some P.m) ∧
  (selectMethod pl s.vm cX T.fill0 = .method T.fill0 ∧ selectMethod pl s.vm cX T.fill = .method T.fill) ∧
  (s.heap[T.aS]? = some cs ∧ cs.vm.isStatics = true ∧ cs.slots[T.fUnassigned.slot]? = some u.v ∧ cs.slots[T.fSentinel.slot]? = some n.v) ∧
  ((∀ a, Takes s (freshCell cX kX) T.fCause (.ref a)) ∧ Takes s (freshCell cX kX) T.fStack u.v ∧ Takes s (freshCell cX kX) T.fSupp n.v ∧ ∀ v : Value, v.isRef = true → Takes s (freshCell cX kX) T.fMsg v) ∧
  ∀ a q, SkipFacts T pl s (fun x => x) u ((preparedCellV T.toThrowableT (freshCell cX kX) a u n).withEntry q)
set_option maxHeartbeats 1000000 in
theorem NX_of {l : Launch} {e : Env} (ha : l.admits e) {args : Array Value} {s : State} {own X : String} {ic : Nat} (hX : Bundle.fit X = true) (h : ∀ w ∈ xAtoms own ic X, w.before args s = true) {cX : ClassId} {kX : Class} (hc : s.vm.findClass X = some cX) (hk : s.vm.classes[cX]? = some kX) : ∃ T Z M P Ps cs u n, NX e.platform s X cX kX T Z M P Ps cs u n := by
  have hp : e.platform.magicAccessors = ({} : Platform).magicAccessors := by rw [ha.platform]
  have w : ∀ {d : Cond}, d ∈ xAtoms own ic X → d.holds args s none s [] = true := fun hd => h _ hd
  have up : ∀ {d : Cond}, d ∈ Bundle.throwableAtoms ++ Bundle.throwableSAtoms ++ Bundle.chainSAtomsX X 13 six13 nxUp → d.before args s = true := fun hd => h _ (List.mem_append_left _ hd)
  obtain ⟨T, Z0, hT, _, hY⟩ := ThrowableC.of_atoms (args := args) (by rw [ha.platform]) (by rw [ha.platform]) hp (fun d hd => up (List.mem_append_left _ (List.mem_append_left _ hd)))
  obtain ⟨Z, M, hZ, hM, hZn⟩ := Init0T.ofS_atoms (args := args) hp hT hY (fun d hd => up (List.mem_append_left _ (List.mem_append_right _ hd)))
  obtain ⟨P, Ps, hlen, hP, hPs, hPm, hs1, hs2⟩ := Bundle.chainSX (args := args) hp hZn (ix := 13) (rx := six13) (by decide +kernel) (by decide +kernel) (by decide +kernel) (by decide +kernel) nxUp X hX (by decide +kernel) (fun d hd => up (List.mem_append_right _ hd))
  obtain ⟨c', k', e1, e2, ho, _⟩ := Cond.instantiable_spec (w (d := .instantiable X 6) (List.mem_append_right _ (by simp)))
  have e1 := e1.symm.trans hc
  cases e1
  have e2 := e2.symm.trans hk
  cases e2
  obtain ⟨cs, hcs, hst⟩ := hY.statics
  obtain ⟨u, hu⟩ := Cond.staticRefV hY.unassigned hT.unassignedStatic hT.statics hcs hst (w (d := .isRef (.static Bundle.tN "UNASSIGNED_STACK" Bundle.steD)) (List.mem_append_right _ (by simp)))
  obtain ⟨n, hn⟩ := Cond.staticRefV hY.sentinel hT.sentinelStatic hT.statics hcs hst (w (d := .isRef (.static Bundle.tN "SUPPRESSED_SENTINEL" Bundle.listD)) (List.mem_append_right _ (by simp)))
  have ly : ∀ (nm ds : String) {c1 i : Nat} {k1 : Class} {f : Field}, s.fieldFound? Bundle.tN nm ds = some (c1, k1, i, f) → Cond.lays X Bundle.tN nm ds ∈ xAtoms own ic X → kX.instanceTypes[f.slot]? = some f.type ∧ ∃ d, Jmm.declares? s.vm f.slot (cX + 1) cX = some d ∧ d.2.name = f.name := fun nm ds _ _ _ _ hf hm => Cond.laysAt hc hk hf (w hm)
  obtain ⟨iM, hMf⟩ := hY.msg
  obtain ⟨ci, i, fB, b1, b2, b3, b4, _, b5, b6, b7⟩ := Cond.ownField (t := .object "java/lang/Object") hY.found hT.cls (by decide +kernel) (w (d := .fieldLink Bundle.tN 198 Bundle.tN "backtrace" "Ljava/lang/Object;") (List.mem_append_right _ (by simp))) (w (d := .lays Bundle.tN Bundle.tN "backtrace" "Ljava/lang/Object;") (List.mem_append_right _ (by simp))) e.platform hp
  obtain ⟨t1, _, q1, r1⟩ := ly "cause" "Ljava/lang/Throwable;" hY.cause (List.mem_append_right _ (by simp))
  obtain ⟨t2, _, q2, r2⟩ := ly "stackTrace" Bundle.steD hY.stack (List.mem_append_right _ (by simp))
  obtain ⟨t3, _, q3, r3⟩ := ly "suppressedExceptions" Bundle.listD hY.supp (List.mem_append_right _ (by simp))
  obtain ⟨t4, _⟩ := ly "detailMessage" "Ljava/lang/String;" hMf (List.mem_append_right _ (by simp))
  obtain ⟨t5, _, q5, r5⟩ := ly "backtrace" "Ljava/lang/Object;" b7 (List.mem_append_right _ (by simp))
  have tk : ∀ {f : Field} {v : Value}, kX.instanceTypes[f.slot]? = some f.type → fits f.type v = true → Takes s (freshCell cX kX) f v := fun hy hv => Takes.of_laid hk ho hy hv
  refine ⟨T, Z, M, P, Ps, cs, u, n, ⟨hT, hZ, hM, hY.objLocals⟩, ⟨hlen, ?_, ⟨hs1, hs2⟩, hPm⟩, ⟨nx_sel ha hc hY.fill0 (by decide) (h _ (List.mem_append_right _ (by simp))), nx_sel ha hc hY.fill (by decide) (h _ (List.mem_append_right _ (by simp)))⟩, ⟨hcs, hst, hu, hn⟩,
    ⟨fun a => tk t1 (by rw [hY.causeType]; rfl), tk t2 (by rw [hY.stackType]; exact fits_refV_array _ u), tk t3 (by rw [hY.suppType]; exact fits_refV_object _ n), fun v hv => tk t4 (by rw [hY.msgType]; exact fits_refV_object _ ⟨v, hv⟩)⟩, fun a q => ?_⟩
  · intro Q hQ
    rcases List.mem_cons.mp hQ with hQ | hQ
    · rw [hQ]; exact hP
    · exact hPs Q hQ
  · have ap : ∀ {f : Field} {d : Class × Field}, Jmm.declares? s.vm f.slot (cX + 1) cX = some d → d.2.name = f.name → "backtrace" ≠ f.name → fB.slot ≠ f.slot := fun hq hr hne => Cond.laysApart q5 hq r5 hr (by rw [b5]; exact hne)
    exact ⟨{ ci198 := ci, i198 := i, fBack := fB }, ⟨b1, b2, b3, b4⟩, nx_null t5 b6 (ap q1 r1 (by rw [hY.causeName]; decide)) (ap q2 r2 (by rw [hY.stackName]; decide)) (ap q3 r3 (by rw [hY.suppName]; decide)) a u n q, fun _ _ => rfl⟩
set_option maxHeartbeats 1000000 in
/-- from the call of the constructor to the throw -/
theorem nx_throw {p : Program} {l : Launch} {e : Env} {R : Room} {s : State} {m : MethodId} {args : Array Value} {below : List Frame} {meth : Method} {c : Code} {W : State} {cells slots : Nat} (X : Stand p l e R s m args below meth c W [] cells slots) (hexec : p.tables.exec = Jvm.exec) (htr : e.platform.stackTraces = false) {own cls : String} {ic : Nat}
    (hown : s.vm.findClass own = some m.cls) (hcls : Bundle.fit cls = true) (h : ∀ w ∈ xAtoms own ic cls, w.before args s = true)
    {a : Addr} {cX : ClassId} {kX : Class} (hc : s.vm.findClass cls = some cX) (hk : s.vm.classes[cX]? = some kX) (hcell : W.heap[a]? = some (freshCell cX kX)) (hnew : s.heap.size ≤ a) {v : Value} (hv : v.isRef = true)
    {g : JFrame} (hg : g.method = m) (hsz : g.locals.size = c.maxLocals) (hlk : g.locked = none) (hen : g.entered = []) {rest : List Value} (hst : g.stack = v :: .ref a :: .ref a :: rest)
    (d6 : decode c.code g.pc = .ok (.invokespecial ic, 3)) (d9 : decode c.code (g.pc + 3) = .ok (.athrow, 1)) (hout : ∀ x ∈ c.exceptionTable.toList, covers x (g.pc + 3) = false)
    (hR1 : 5 < R.frames) (hR2 : 2 * g.monitorRoom + ((Value.ref a :: rest).map fun v => v.category).sum + (13 * 3 + 42) ≤ R.locals) (hlocks : meth.locks = false) :
    ∃ U : State, Steps p.tables e below (W.setTop g) U ∧ U.status = .running ∧ Ended U below (.threw a) ∧ s.WarmedH U.vm ∧ s.sameButNew ({ U with vm := s.vm } : State) [] cells slots ∧
      ∃ ce : Cell, U.heap[a]? = some ce ∧ ce.vm = .none ∧ s.vm.findClass cls = some ce.cls := by
  obtain ⟨T, Z, M, P, Ps, cs, u, n, ⟨hT, hZ, hM, hO⟩, ⟨hlen, hL, hPs, hPm⟩, ⟨hs0, hs1⟩, ⟨hcs, hiss, hu, hn⟩, ⟨k1, k2, k3, k4⟩, hsk⟩ := NX_of X.admits hcls h hc hk
  -- Throwable's statics stand as they stood
  obtain ⟨c2, z1, z2, _, z4⟩ := X.same.2.2.2.2.2 T.aS cs hcs
  have keep : ∀ i, c2.slots[i]? = cs.slots[i]? := fun i => z4 i (fun hm => nomatch hm)
  have known : c2.vm ≠ .unknown := fun q => by
    rw [show cs.vm = .unknown from (congrArg Cell.vm z2).symm.trans q] at hiss
    exact Bool.noConfusion hiss
  have apart : T.aS ≠ a := fun q => Nat.lt_irrefl a (Nat.lt_of_lt_of_le (q ▸ (Array.getElem?_eq_some_iff.mp hcs).1) hnew)
  -- into the constructor
  obtain ⟨tm, _, _, _, v1, j1, _, _, _, _, _, _, _, j2, st1⟩ := Steps.initColdS (tb := p.tables) (e := e) (below := below) X.here hexec X.warmed (by rw [X.admits.platform]) hown (t := Bundle.initS cls) rfl rfl (Bundle.fit_spec hcls).2
    (h (.methodLink own ic (Bundle.initS cls)) (List.mem_append_right _ (by simp))) (h (.instanceMethod (Bundle.initS cls)) (List.mem_append_left _ (List.mem_append_right _ (List.mem_append_left _ (by simp [Bundle.passSAtoms]))))) (bytes := six13) (maxL := 2) (h (.code (Bundle.initS cls) six13 2 none) (List.mem_append_left _ (List.mem_append_right _ (List.mem_append_left _ (by simp [Bundle.passSAtoms])))))
    hg hst d6
  have j1 := j1.symm.trans hPm
  cases j1
  -- through it and those above it
  obtain ⟨v2, X2, st2⟩ := (X.noted j2).ctorMessageOffV hexec (g := { g with stack := .ref a :: rest }) hg hsz T hT Z hZ M hM (P :: Ps) hL hPs (u0 := u) (sen := n) (self := a) hv (cell := freshCell cX kX) (cellS := c2)
    hcell (fun _ q => by cases q) (fun q => by cases q) rfl rfl hs0 hs1 z1 apart known ((keep _).trans hu) ((keep _).trans hn) (k1 a) k2 k3 (k4 v hv) hO (hsk a _) htr [] d6 (by rw [List.length_cons, hlen]; exact hR1) (by rw [List.length_cons, hlen]; exact hR2)
  have X3 := X2.dropFresh (fun y hy => by
    have : y.base = a := by
      simp only [List.mem_cons, List.not_mem_nil, or_false] at hy
      rcases hy with q | q | q | q | q <;> rw [q]
    rw [this]
    exact hnew)
  obtain ⟨t1, t2, t3, t4, t5⟩ := X3.athrowLeaves hexec (g := { g with stack := .ref a :: rest, pc := g.pc + 3 }) hg hlk hen hout (a := a) (rest := rest) rfl d9 hlocks
  refine ⟨_, st1 _ (fun acts => ?_), t2, t3, t4, t5, _, heapAt_setCell_self _ (Array.getElem?_eq_some_iff.mp hcell).1, rfl, hc⟩
  rw [doInvoke_state]
  exact st2 _ t1
theorem xthrow {p : Program} {l : Launch} {e : Env} {R : Room} {s : State} {m : MethodId} {args : Array Value} {below : List Frame} {meth : Method} {c : Code} {H : Heap} {locs : List Loc} {cells slots : Nat} {free : Addr → Prop} {ls : Array Slot} {rest : List Value} {Qc : Array Value → State → Outcome → State → Prop} {XC : String → State → State → Prop} {cc : ByteArray} {pc : Nat} (hexec : p.tables.exec = Jvm.exec) (hb : c.code = cc) (hl : l.stackTraces = false) {own cls text : String} {ik is ic mc ms sa : Nat} {A : Nat → Prop}
    (hown : s.vm.findClass own = some m.cls) (hcls : Bundle.fit cls = true)
    (hk : (Cond.classLink own ik cls).before args s = true) (hini : (Cond.initialized cls).before args s = true) (hstr : vk_R own is text sa s) (hat : ∀ w ∈ (xAtoms own ic cls).filter vx_no, w.before args s = true)
    (hgood : ∀ w ∈ Cond.classLink own ik cls :: Cond.initialized cls :: (xAtoms own ic cls).filter vx_no, vx_ot w = true)
    (hU : vx_Zq Bundle.tN "UNASSIGNED_STACK" Bundle.steD A s s.heap) (hN : vx_Zq Bundle.tN "SUPPRESSED_SENTINEL" Bundle.listD A s s.heap) (hS : va_S A s.heap H locs) (hsize : ls.size = c.maxLocals)
    (d0 : decode cc pc = .ok (.new ik, 3)) (d3 : decode cc (pc + 3) = .ok (.dup, 1)) (d4 : decode cc (pc + 4) = .ok (.ldc is, 2)) (d6 : decode cc (pc + 6) = .ok (.invokespecial ic, 3)) (d9 : decode cc (pc + 9) = .ok (.athrow, 1))
    (hout : ∀ x ∈ c.exceptionTable.toList, covers x (pc + 9) = false)
    (hRframes : 5 < R.frames) (hRlocals : (rest.map fun v => v.category).sum + (13 * 3 + 43) ≤ R.locals) (hRcells : cells + 1 ≤ R.cells) (hRslots : slots + 6 ≤ R.slots) (hlocks : meth.locks = false)
    (hx : ∀ t : State, s.vm.Alike t.vm → H.size ≤ t.heap.size → (∀ q : Nat, q < H.size → t.heap[q]? = H[q]?) → XC cls s t)
    (hf : ∀ z ∈ locs, free z.base) (hc : cells + 1 ≤ mc) (hs : slots + 6 ≤ ms) :
    W p l e R s m args below meth c H locs cells slots (vx_MQ below Qc XC args s mc ms free) (F0 m pc ls rest) := by
  intro T hT X
  have htr : e.platform.stackTraces = false := (show e.platform.stackTraces = l.stackTraces by rw [X.admits.platform]).trans hl
  have Y := vx_rebase X (R' := { frames := R.frames, locals := R.locals, cells := 1, slots := 6 }) (Nat.le_refl _) (Nat.le_refl _) hRcells hRslots
  obtain ⟨s', hA⟩ : ∃ z, z = (T.setVm s.vm).setFrames (.invoking m args :: below) := ⟨_, rfl⟩
  rw [← hA] at Y
  have hvm : s'.vm = s.vm := by rw [hA]; rfl
  have hhp : s'.heap = H := by rw [hA]; exact hT
  have hW0 : s.WarmedH s'.vm := by rw [hvm]; exact State.WarmedH.refl s
  have hat' : ∀ w ∈ (xAtoms own ic cls).filter vx_no, w.before args s' = true := fun w hw => vx_ot_at hW0 hvm.symm (hgood w (List.mem_cons_of_mem _ (List.mem_cons_of_mem _ hw))) (hat w hw)
  have hk' : (Cond.classLink own ik cls).before args s' = true := vx_ot_at hW0 hvm.symm (hgood _ List.mem_cons_self) hk
  have hini' : (Cond.initialized cls).before args s' = true := vx_ot_at hW0 hvm.symm (hgood _ (List.mem_cons_of_mem _ List.mem_cons_self)) hini
  have hU' : vx_Zq Bundle.tN "UNASSIGNED_STACK" Bundle.steD A s' s'.heap := by rw [hhp]; exact vx_Zq.moved hW0.alike (hU.kept hS.2.1)
  have hN' : vx_Zq Bundle.tN "SUPPRESSED_SENTINEL" Bundle.listD A s' s'.heap := by rw [hhp]; exact vx_Zq.moved hW0.alike (hN.kept hS.2.1)
  have h : ∀ w ∈ xAtoms own ic cls, w.before args s' = true := vx_own hat' (vx_isRefq hU'.1) (vx_isRefq hN'.1) hU'.2.word hN'.2.word
  have hown' : s'.vm.findClass own = some m.cls := by rw [hvm]; exact hown
  have hins : (Cond.instantiable cls 6).before args s' = true := h _ (List.mem_append_right _ (by simp))
  obtain ⟨vm₁, cX, kX, hfX, hkX, -, -, X₁, st1⟩ := Y.newCold hexec (own := own) (C := cls) (index := ik) (n := 6) hown' hk' hins hini'
    (g := F0 m pc ls rest) rfl (by rw [hb]; exact d0) (Nat.le_refl _) (Nat.le_refl _)
  generalize hT1 : (T.setVm vm₁).pushCell { cls := cX, slots := kX.instanceTypes.map defaultValue, vm := .none } = T1 at X₁ st1
  have hcat : (Value.ref T.heap.size).category = 1 := rfl
  have hcellA : T1.heap[T.heap.size]? = some (freshCell cX kX) := by rw [← hT1]; exact State.heap_pushCell_size _ _
  have d3' : decode c.code (pc + 3) = .ok (.dup, 1) := by rw [hb]; exact d3
  have d4' : decode c.code (pc + 4) = .ok (.ldc is, 2) := by rw [hb]; exact d4
  have hstr' : vk_R own is text sa s' := vk_R.warm hW0 hstr
  obtain ⟨U, hsteps, hrun, hend, hW, hsame, ce, hce, hOv, hOc⟩ := nx_throw X₁ hexec htr (own := own) (cls := cls) (ic := ic) hown' hcls h hfX hkX hcellA (by rw [hhp, hT]; exact Nat.le_refl _) (v := .ref sa) rfl
    (g := { method := m, pc := pc + 6, locals := ls, stack := .ref sa :: .ref T.heap.size :: .ref T.heap.size :: rest, locked := none }) rfl hsize rfl rfl (rest := rest) rfl
    (by rw [hb]; exact d6) (by rw [hb]; exact d9) hout hRframes (by simp only [List.map_cons, List.sum_cons, hcat]; omega) hlocks
  obtain ⟨f1, f2⟩ := vx_frame hsame
  rw [hhp] at f1 f2
  have hWs : s.WarmedH U.vm := State.WarmedH.trans hW0 hW
  have hcl : s.vm.findClass cls = some ce.cls := by
    have h9 := hOc
    rw [hvm] at h9
    exact h9
  have hall : s.sameButNew ({ U with vm := s.vm } : State) locs mc ms := by
    subst hA
    obtain ⟨e1, e2⟩ := hsame
    rw [State.setFrames_setFrames] at e1
    have h2 : (T.setVm s.vm).sameButNew ({ U with vm := s.vm } : State) [] (0 + 1) (0 + 6) := ⟨e1, e2⟩
    have h3 := X.same.trans h2
    rw [List.append_nil] at h3
    exact h3.mono hc hs
  refine ⟨U, ?_, .threw T.heap.size, hrun, hend, Or.inr ⟨T.heap.size, rfl, cls, ce, locs, hx U hWs.alike f1 (fun q hq => f2 q hq (fun z hz => nomatch hz)), hce, hOv, hcl, hWs, hall, hf⟩⟩
  refine st1 _ ?_
  show Steps p.tables e below (T1.setTop { method := m, pc := pc + 3, locals := ls, stack := .ref T.heap.size :: rest, locked := none }) _
  jvm_step X₁.here [X₁.here.top, hexec, d3', Value.category]
  exact X₁.ldcString hexec (own := own) (text := text) (index := is) (a := sa) hown' hstr'.1 hstr'.2
    (g := { method := m, pc := pc + 4, locals := ls, stack := .ref T.heap.size :: .ref T.heap.size :: rest, locked := none }) rfl d4' _ hsteps
