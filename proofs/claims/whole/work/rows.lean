section
theorem zz_wide : True := (fun _ => trivial) @Jvm.Stand.thenCaughtThrough
section VXA
def vx_T (XC : String → State → State → Prop) (st : State) (q : Addr) (t : State) (mc ms : Nat) (free : Addr → Prop) : Prop :=
  ∃ (E : String) (ce : Cell) (L : List Loc), XC E st t ∧ t.heap[q]? = some ce ∧ ce.vm = .none ∧ st.vm.findClass E = some ce.cls ∧ st.WarmedH t.vm ∧ st.sameButNew ({ t with vm := st.vm } : State) L mc ms ∧ ∀ z ∈ L, free z.base
def vx_Q (Qc : Array Value → State → Outcome → State → Prop) (XC : String → State → State → Prop) (mc ms : Nat) (free : Addr → Prop) : Array Value → State → Outcome → State → Prop := fun a st o t =>
  (Qc a st o t ∧ ∃ L, FrameEnd st o t L mc ms ∧ ∀ q ∈ L, free q.base) ∨ ∃ q, o = .threw q ∧ vx_T XC st q t mc ms free
def vx_Met (l : Launch) (y : MethodName) (ws : List Cond) (rm : Room) (Pc : Array Value → State → Prop) (Qc : Array Value → State → Outcome → State → Prop) (XC : String → State → State → Prop) (mc ms : Nat) (free : Addr → Prop) : Prop :=
  MetFree l y (headSpec ws rm) Pc (fun _ _ _ _ _ => True) (vx_Q Qc XC mc ms free)
def vx_Post (XC : String → State → State → Prop) (mc ms : Nat) (free : Addr → Prop) : Pt → Array Value → Addr → Pt → Prop := fun A a q B =>
  ∃ (g : JFrame) (mk : MethodId) (t : State) (L : List Loc) (E : String) (ce : Cell), B.U.heap = t.heap ∧ B.U.vm = t.vm ∧ XC E (A.U.calling g mk a) t ∧ t.heap[q]? = some ce ∧ ce.vm = .none ∧ A.U.vm.findClass E = some ce.cls ∧ B.locs = A.locs ++ L ∧ (∀ z ∈ L, free z.base) ∧ B.cells = A.cells + mc ∧ B.slots = A.slots + ms
def vx_Back (l : Launch) (R : Room) (p : Program) (e : Env) (below : List Frame) (s : State) (sargs : Array Value) (y : MethodName) (len W9 : Nat)
    (Pre : Pt → Array Value → Prop) (Post : Pt → Array Value → Option Value → Pt → Prop) (PostX : Pt → Array Value → Addr → Pt → Prop) : Prop :=
  ∀ (m : MethodId) (meth : Method) (c : Code) (A : Pt) (g : JFrame) (ig : Instr) (mk : MethodId) (a : Array Value),
    Stand p l e R s m sargs below meth c A.U A.locs A.cells A.slots → g.method = m → g.locals.size = c.maxLocals → decode c.code g.pc = .ok (ig, len) →
    2 * g.monitorRoom + (g.stack.map fun v => v.category).sum ≤ W9 → A.U.methodNamed? y = some mk → Pre A a →
    (∃ (v : Option Value) (B : Pt), Stand p l e R s m sargs below meth c B.U B.locs B.cells B.slots ∧ Post A a v B ∧
      Steps p.tables e below (doInvoke e (A.U.setTop g) [] mk a).1 (B.U.setTop { g with pc := g.pc + len, stack := v.toList ++ g.stack })) ∨
    (∃ (q : Addr) (B : Pt), Stand p l e R s m sargs below meth c B.U B.locs B.cells B.slots ∧ PostX A a q B ∧
      Steps p.tables e below (doInvoke e (A.U.setTop g) [] mk a).1 ((B.U.setTop g).pushFrame (.throwing q)))
section Payer
variable {l : Launch} {R : Room} {p : Program} {e : Env} {below : List Frame} {s : State} {sargs : Array Value} {y : MethodName} {len W9 : Nat}
theorem vx_back {ws : List Cond} {rm : Room} {Pc : Array Value → State → Prop} {Qc : Array Value → State → Outcome → State → Prop} {XC : String → State → State → Prop} {mc ms : Nat} {free : Addr → Prop} {bytes : ByteArray} {maxL : Nat} {ret : Option FieldType}
    (hM : vx_Met l y ws rm Pc Qc XC mc ms free) (hblind : FrameBlind Pc) (hrc : rm.cells = mc) (hrs : rm.slots = ms)
    (hframes : rm.frames + 1 ≤ R.frames) (hlocals : W9 + (maxL + 11) + rm.locals ≤ R.locals)
    (hws : ∀ w ∈ ws, ∀ a' U, s.WarmedH U.vm → w.before a' U = true) (hcode : Cond.code y bytes maxL ret ∈ ws) (hinit : ∀ a' U, s.WarmedH U.vm → (Cond.initialized y.cls).before a' U = true) :
    vx_Back l R p e below s sargs y len W9 (PreOf R mc ms Pc) (PostOf Qc mc ms free) (vx_Post XC mc ms free) := by
  intro m meth c A g ig mk a X hg hsize hdg hW hn hp
  have h1 : (headSpec ws rm).pre.before a A.U = true := atoms_intro fun w hw => hws w hw _ _ X.warmed
  have h2 : (Cond.code y bytes maxL ret).before a A.U = true := hws _ hcode _ _ X.warmed
  have h3 : (Cond.initialized y.cls).before a A.U = true := hinit _ _ X.warmed
  have h4 : A.cells + (headSpec ws rm).room.cells ≤ R.cells := by rw [show (headSpec ws rm).room.cells = mc from hrc]; exact hp.1
  have h5 : A.slots + (headSpec ws rm).room.slots ≤ R.slots := by rw [show (headSpec ws rm).room.slots = ms from hrs]; exact hp.2.1
  have hPc : Pc a (A.U.calling g mk a) := hblind _ _ _ _ hp.2.2
  obtain ⟨U, Ls, c0, s0⟩ := A
  dsimp only [Pt.U, Pt.locs, Pt.cells, Pt.slots] at h1 h2 h3 h4 h5 X hn hPc ⊢
  obtain ⟨methY, cY, hmY, hcY, -, hlY, -, -, -, -⟩ := Cond.code_spec hn h2
  obtain ⟨kY, hkY, -⟩ := className_of_methodNamed hn
  have hinitY : kY.init = .initialized := Cond.initialized_spec (findClass_of_methodNamed hn) hkY h3
  have h : At U g.method c below := by rw [hg]; exact X.here
  have hlocals9 : W9 + (maxL + 11) + (headSpec ws rm).room.locals ≤ R.locals := hlocals
  have happ : (headSpec ws rm).appliesLoose y e.platform (U.calling g mk a) = true :=
    Spec.appliesLoose_calling (g := g) h hdg hn hkY hinitY
      (X.room_calling (g := g) (R' := (headSpec ws rm).room) hsize hmY hcY hframes (by rw [hlY]; omega) h4 h5) h1
  obtain ⟨mid, hmid⟩ := h.above
  have hfr : (U.setTop g).frames = (.java g :: mid) ++ below := by rw [State.frames_setTop' g h.top, hmid]; rfl
  obtain ⟨o, s₂, hsteps, -, hend, hq⟩ := Steps.callFree hM p X.admits X.cas X.clock (acts := []) hfr happ hPc trivial
  have hq' : vx_Q Qc XC mc ms free a (U.calling g mk a) o s₂ := hq
  rw [State.frames_setTop' g h.top] at hend
  obtain ⟨g₀, hg0⟩ := Option.isSome_iff_exists.mp h.top
  obtain ⟨r, hr⟩ := State.topJava?_eq_some.mp hg0
  have hr' : (({ U with heap := s₂.heap, slotsUsed := s₂.slotsUsed } : State).setVm s₂.vm).frames = .java g₀ :: r := hr
  rcases hq' with ⟨hqc, L, hfe, hL⟩ | ⟨q, rfl, E, ce, L, hx, hce, hcv, hcl, hW₂, hsm, hL⟩
  · obtain ⟨⟨v, rfl⟩, hW₂, e2, q2, q3, q4, q5, q6⟩ := id hfe
    have e3 : s₂ = ({ (U.calling g mk a).setFrames s₂.frames with heap := s₂.heap, slotsUsed := s₂.slotsUsed } : State).setVm s₂.vm := by
      have : s₂ = ({ s₂ with vm := (U.calling g mk a).vm } : State).setVm s₂.vm := rfl
      rw [e2] at this
      exact this
    obtain ⟨c₂, i₂, len₂, hc₂, hd₂, hf₂⟩ := hend
    have hW' : U.WarmedH s₂.vm := hW₂
    have hcc : c₂ = c := by
      have h1 : s₂.code? g.method = U.code? g.method := by
        rw [State.code?_eq, State.code?_eq, hW'.alike.method?]
      exact Option.some.inj (hc₂.symm.trans (h1.trans h.code))
    subst hcc
    have hlen : len₂ = len := by rw [hdg] at hd₂; cases hd₂; rfl
    subst hlen
    have hs₂ : s₂ = (({ U with heap := s₂.heap, slotsUsed := s₂.slotsUsed } : State).setVm s₂.vm).setTop { g with pc := g.pc + len₂, stack := v.toList ++ g.stack } := by
      refine e3.trans ?_
      rw [hf₂, State.calling_eq h.top, State.setFrames_setFrames, State.setTop_of_frames _ hr', hr]
      rfl
    have hsame : U.sameButNew ({ U with heap := s₂.heap, slotsUsed := s₂.slotsUsed } : State) L mc ms := by
      refine ⟨?_, q2, q3, q4, q5, q6⟩
      obtain ⟨t, ht, -⟩ := State.frames_cons hr
      show ({ U with heap := s₂.heap, slotsUsed := s₂.slotsUsed } : State) = { U.setFrames U.frames with heap := s₂.heap, slotsUsed := s₂.slotsUsed }
      rw [State.setFrames_self ht]
    subst hg
    refine Or.inl ⟨v, ⟨(({ U with heap := s₂.heap, slotsUsed := s₂.slotsUsed } : State).setVm s₂.vm), Ls ++ L, c0 + mc, s0 + ms⟩,
      ⟨X.admits, X.cas, X.clock, X.frames, X.room, X.hears, X.method, X.code, (X.here.setHeapUsed s₂.heap s₂.slotsUsed).setVm hW'.alike, X.tail, State.WarmedH.trans X.warmed hW', X.limits, X.bytes, X.same.trans (hsame.setVm s.vm)⟩,
      ⟨g, mk, s₂, L, rfl, rfl, hqc, rfl, hL, rfl, rfl⟩, ?_⟩
    show Steps p.tables e below _ ((({ U with heap := s₂.heap, slotsUsed := s₂.slotsUsed } : State).setVm s₂.vm).setTop { g with pc := g.pc + len₂, stack := v.toList ++ g.stack })
    rw [← hs₂]
    exact hsteps
  · obtain ⟨e2, q2, q3, q4, q5, q6⟩ := id hsm
    have e3 : s₂ = ({ (U.calling g mk a).setFrames s₂.frames with heap := s₂.heap, slotsUsed := s₂.slotsUsed } : State).setVm s₂.vm := by
      have : s₂ = ({ s₂ with vm := (U.calling g mk a).vm } : State).setVm s₂.vm := rfl
      rw [e2] at this
      exact this
    have hf₂ : s₂.frames = .throwing q :: .java g :: U.frames.tail := hend
    have hW' : U.WarmedH s₂.vm := hW₂
    have hs₂ : s₂ = ((({ U with heap := s₂.heap, slotsUsed := s₂.slotsUsed } : State).setVm s₂.vm).setTop g).pushFrame (.throwing q) := by
      refine e3.trans ?_
      rw [hf₂, State.calling_eq h.top, State.setFrames_setFrames, State.pushFrame, State.frames_setTop _ hr', State.setTop_of_frames _ hr', State.setFrames_setFrames, hr]
      rfl
    have hsame : U.sameButNew ({ U with heap := s₂.heap, slotsUsed := s₂.slotsUsed } : State) L mc ms := by
      refine ⟨?_, q2, q3, q4, q5, q6⟩
      obtain ⟨t, ht, -⟩ := State.frames_cons hr
      show ({ U with heap := s₂.heap, slotsUsed := s₂.slotsUsed } : State) = { U.setFrames U.frames with heap := s₂.heap, slotsUsed := s₂.slotsUsed }
      rw [State.setFrames_self ht]
    subst hg
    refine Or.inr ⟨q, ⟨(({ U with heap := s₂.heap, slotsUsed := s₂.slotsUsed } : State).setVm s₂.vm), Ls ++ L, c0 + mc, s0 + ms⟩,
      ⟨X.admits, X.cas, X.clock, X.frames, X.room, X.hears, X.method, X.code, (X.here.setHeapUsed s₂.heap s₂.slotsUsed).setVm hW'.alike, X.tail, State.WarmedH.trans X.warmed hW', X.limits, X.bytes, X.same.trans (hsame.setVm s.vm)⟩,
      ⟨g, mk, s₂, L, E, ce, rfl, rfl, hx, hce, hcv, hcl, rfl, hL, rfl, rfl⟩, ?_⟩
    show Steps p.tables e below _ (((({ U with heap := s₂.heap, slotsUsed := s₂.slotsUsed } : State).setVm s₂.vm).setTop g).pushFrame (.throwing q))
    rw [← hs₂]
    exact hsteps
end Payer
section Calls
variable {p : Program} {l : Launch} {e : Env} {R : Room} {s : State} {m : MethodId} {args : Array Value} {below : List Frame} {meth : Method} {c : Code} {T : State} {locs : List Loc} {cells slots : Nat}
theorem vx_callV (X : Stand p l e R s m args below meth c T locs cells slots) (hexec : p.tables.exec = Jvm.exec) {own C : String} {index : Nat} {y : MethodName} {bytes : ByteArray} {maxL : Nat} {ret : Option FieldType}
    (hown : s.vm.findClass own = some m.cls) (hlink : (Cond.methodLink own index y).before args s = true) (hinst : (Cond.instanceMethod y).before args s = true) (hsel : (Cond.selects C y y).before args s = true)
    (hcode : (Cond.code y bytes maxL ret).before args s = true) (hy : y.cls ≠ "java/lang/invoke/MethodHandle" ∧ y.cls ≠ "java/lang/invoke/VarHandle")
    {W9 : Nat} {Pre : Pt → Array Value → Prop} {Post : Pt → Array Value → Option Value → Pt → Prop} {PostX : Pt → Array Value → Addr → Pt → Prop} (hK : vx_Back l R p e below s args y 3 W9 Pre Post PostX)
    {b : Addr} {cellB : Cell} (hcell : T.heap[b]? = some cellB) (hobj : cellB.vm.isStatics = false) (hcls : s.vm.findClass C = some cellB.cls)
    {g : JFrame} (hg : g.method = m) (hsize : g.locals.size = c.maxLocals) {argsL rest : List Value} (hlen : ∀ sig, parseMethodDescriptor y.desc = some sig → argsL.length = sig.parameters.length)
    (hstack : g.stack = argsL.reverse ++ .ref b :: rest) (hW : 2 * g.monitorRoom + (rest.map fun v => v.category).sum ≤ W9) (hdg : decode c.code g.pc = .ok (.invokevirtual index, 3))
    (hpre : ∀ vm₁, s.WarmedH vm₁ → Pre ⟨T.setVm vm₁, locs, cells, slots⟩ (Value.ref b :: argsL).toArray) :
    (∃ (v : Option Value) (vm₁ : Vm) (B : Pt), s.WarmedH vm₁ ∧ Stand p l e R s m args below meth c B.U B.locs B.cells B.slots ∧ Post ⟨T.setVm vm₁, locs, cells, slots⟩ (Value.ref b :: argsL).toArray v B ∧
      ∀ target, Steps p.tables e below (B.U.setTop { g with pc := g.pc + 3, stack := v.toList ++ rest }) target → Steps p.tables e below (T.setTop g) target) ∨
    (∃ (q : Addr) (vm₁ : Vm) (B : Pt), s.WarmedH vm₁ ∧ Stand p l e R s m args below meth c B.U B.locs B.cells B.slots ∧ PostX ⟨T.setVm vm₁, locs, cells, slots⟩ (Value.ref b :: argsL).toArray q B ∧
      Steps p.tables e below (T.setTop g) ((B.U.setTop { g with stack := rest }).pushFrame (.throwing q))) := by
  obtain ⟨mk, methM, hnamed, hmethM, hstM, habM⟩ := Cond.instanceMethod_spec hinst
  obtain ⟨methM', cM, hmethM', -, -, -, -, -, -, hsigM⟩ := Cond.code_spec hnamed hcode
  cases hmethM.symm.trans hmethM'
  obtain ⟨c2, r2, m2, q1, q2, q3, q4, kP, hkP, hkPi⟩ := Cond.selects_spec hsel
  cases hcls.symm.trans q1
  cases (State.methodFound?_of_named hnamed hy).symm.trans q2
  cases hnamed.symm.trans q3
  have hselP : selectMethod e.platform s.vm cellB.cls mk = .method mk := by rw [Launch.admits_selectMethod X.admits]; exact q4
  obtain ⟨vm₁, X₁, hstep₁⟩ := X.invokevirtual hexec hown hlink hnamed hmethM hstM hkP hkPi hy (a := b) (cell := cellB) hcell
    (fun z h => by rw [h] at hobj; cases hobj) hselP hmethM habM hkP hkPi (g := g) hg (argsL := argsL) (rest := rest) (hlen _ hsigM) hstack hdg
  rcases hK m meth c ⟨T.setVm vm₁, locs, cells, slots⟩ { g with stack := rest } (.invokevirtual index) mk (Value.ref b :: argsL).toArray X₁ hg hsize hdg hW (X₁.named hnamed) (hpre vm₁ X₁.warmed) with ⟨v, B, X', hpost, hsteps⟩ | ⟨q, B, X', hpost, hsteps⟩
  · exact Or.inl ⟨v, vm₁, B, X₁.warmed, X', hpost, fun target h => hstep₁ _ fun acts => by rw [doInvoke_state]; exact hsteps.trans h⟩
  · exact Or.inr ⟨q, vm₁, B, X₁.warmed, X', hpost, hstep₁ _ fun acts => by rw [doInvoke_state]; exact hsteps⟩
theorem vx_callS (X : Stand p l e R s m args below meth c T locs cells slots) (hexec : p.tables.exec = Jvm.exec) {own : String} {index : Nat} {y : MethodName} {bytes : ByteArray} {maxL : Nat} {ret : Option FieldType}
    (hown : s.vm.findClass own = some m.cls) (hlink : (Cond.methodLink own index y).before args s = true) (hstat : (Cond.static y).before args s = true) (hinit : (Cond.initialized y.cls).before args s = true)
    (hcode : (Cond.code y bytes maxL ret).before args s = true) (hy : y.cls ≠ "java/lang/invoke/MethodHandle" ∧ y.cls ≠ "java/lang/invoke/VarHandle")
    {W9 : Nat} {Pre : Pt → Array Value → Prop} {Post : Pt → Array Value → Option Value → Pt → Prop} {PostX : Pt → Array Value → Addr → Pt → Prop} (hK : vx_Back l R p e below s args y 3 W9 Pre Post PostX)
    {g : JFrame} (hg : g.method = m) (hsize : g.locals.size = c.maxLocals) {argsL rest : List Value} (hlen : ∀ sig, parseMethodDescriptor y.desc = some sig → argsL.length = sig.parameters.length)
    (hstack : g.stack = argsL.reverse ++ rest) (hW : 2 * g.monitorRoom + (rest.map fun v => v.category).sum ≤ W9) (hdg : decode c.code g.pc = .ok (.invokestatic index, 3))
    (hpre : ∀ vm₁, s.WarmedH vm₁ → Pre ⟨T.setVm vm₁, locs, cells, slots⟩ argsL.toArray) :
    (∃ (v : Option Value) (vm₁ : Vm) (B : Pt), s.WarmedH vm₁ ∧ Stand p l e R s m args below meth c B.U B.locs B.cells B.slots ∧ Post ⟨T.setVm vm₁, locs, cells, slots⟩ argsL.toArray v B ∧
      ∀ target, Steps p.tables e below (B.U.setTop { g with pc := g.pc + 3, stack := v.toList ++ rest }) target → Steps p.tables e below (T.setTop g) target) ∨
    (∃ (q : Addr) (vm₁ : Vm) (B : Pt), s.WarmedH vm₁ ∧ Stand p l e R s m args below meth c B.U B.locs B.cells B.slots ∧ PostX ⟨T.setVm vm₁, locs, cells, slots⟩ argsL.toArray q B ∧
      Steps p.tables e below (T.setTop g) ((B.U.setTop { g with stack := rest }).pushFrame (.throwing q))) := by
  obtain ⟨mk, hnamed⟩ := Cond.code_named hcode
  obtain ⟨methM, cM, hmethM, -, -, -, -, -, -, hsigM⟩ := Cond.code_spec hnamed hcode
  have hstatic : methM.isStatic = true := Cond.static_spec hnamed hmethM hstat
  obtain ⟨kP, hkP, -⟩ := className_of_methodNamed hnamed
  have hinitP : kP.init = .initialized := Cond.initialized_spec (findClass_of_methodNamed hnamed) hkP hinit
  obtain ⟨vm₁, X₁, hstep₁⟩ := X.invokestatic hexec hown hlink hnamed hmethM hstatic hkP hinitP hy (g := g) hg (argsL := argsL) (rest := rest) (hlen _ hsigM) hstack hdg
  rcases hK m meth c ⟨T.setVm vm₁, locs, cells, slots⟩ { g with stack := rest } (.invokestatic index) mk argsL.toArray X₁ hg hsize hdg hW (X₁.named hnamed) (hpre vm₁ X₁.warmed) with ⟨v, B, X', hpost, hsteps⟩ | ⟨q, B, X', hpost, hsteps⟩
  · exact Or.inl ⟨v, vm₁, B, X₁.warmed, X', hpost, fun target h => hstep₁ _ fun acts => by rw [doInvoke_state]; exact hsteps.trans h⟩
  · exact Or.inr ⟨q, vm₁, B, X₁.warmed, X', hpost, hstep₁ _ fun acts => by rw [doInvoke_state]; exact hsteps⟩
end Calls
theorem vx_cls {s : State} {T : State} {vm₁ : Vm} {E : String} {k : ClassId} (hW : s.WarmedH vm₁) (h : (T.setVm vm₁).vm.findClass E = some k) : s.vm.findClass E = some k := by
  have h1 : vm₁.findClass E = some k := h
  rw [hW.alike.findClass] at h1
  exact h1
def vx_W (p : Program) (l : Launch) (e : Env) (R : Room) (s : State) (m : MethodId) (args : Array Value) (below : List Frame) (meth : Method) (c : Code) (H : Heap) (locs : List Loc) (cells slots : Nat) (Q : State → Prop) (g : JFrame) (q : Addr) : Prop :=
  ∀ T : State, T.heap = H → Stand p l e R s m args below meth c T locs cells slots → ∃ t, Steps p.tables e below ((T.setTop g).pushFrame (.throwing q)) t ∧ Q t
def vx_Run (p : Program) (l : Launch) (e : Env) (R : Room) (s : State) (m : MethodId) (args : Array Value) (below : List Frame) (meth : Method) (c : Code) (H : Heap) (locs : List Loc) (cells slots mc ms : Nat) (g : JFrame) (rest : List Value) (Qa : State → Outcome → State → Prop) (XC : String → State → State → Prop) (free : Addr → Prop) : Prop :=
  ∀ T : State, T.heap = H → Stand p l e R s m args below meth c T locs cells slots →
    (∃ (v : Option Value) (st₀ t T' : State) (L : List Loc), st₀.heap = H ∧ Stand p l e R s m args below meth c T' (locs ++ L) (cells + mc) (slots + ms) ∧ (∀ q ∈ L, free q.base) ∧ T'.heap = t.heap ∧ T'.vm = t.vm ∧ Qa st₀ (.returned v) t ∧
      Goes p e below T g T' { g with pc := g.pc + 3, stack := v.toList ++ rest }) ∨
    (∃ (q : Addr) (st₀ t T' : State) (L : List Loc) (E : String) (ce : Cell), st₀.heap = H ∧ Stand p l e R s m args below meth c T' (locs ++ L) (cells + mc) (slots + ms) ∧ (∀ z ∈ L, free z.base) ∧ T'.heap = t.heap ∧ T'.vm = t.vm ∧ XC E st₀ t ∧ t.heap[q]? = some ce ∧ ce.vm = .none ∧ s.vm.findClass E = some ce.cls ∧
      Steps p.tables e below (T.setTop g) ((T'.setTop { g with stack := rest }).pushFrame (.throwing q)))
def vx_X {S : Type} (px : S → Prop) (B : String → S → State → Prop) (A : Nat → Prop) : String → State → State → Prop := fun E st t => ∃ u : S, px u ∧ B E u t ∧ va_F A st t
section Runs
variable {p : Program} {l : Launch} {e : Env} {R : Room} {s : State} {m : MethodId} {args : Array Value} {below : List Frame} {meth : Method} {c : Code} {H : Heap} {locs : List Loc} {cells slots : Nat}
variable {y : MethodName} {bytes cc : ByteArray} {maxL nL mc ms n index : Nat} {ret : Option FieldType} {ws : List Cond} {rm : Room} {Pc : Array Value → State → Prop} {Qc : Array Value → State → Outcome → State → Prop} {XC : String → State → State → Prop} {free : Addr → Prop} {Ts : List Cond} {own C : String} {b : Addr} {As rest : List Value} {g : JFrame}
theorem vx_callBack (cb : CallB R s args own index y bytes maxL ret ws rm mc ms n) (hM : vx_Met l y ws rm Pc Qc XC mc ms free) (hbl : FrameBlind Pc) : vx_Back l R p e below s args y 3 8 (PreOf R mc ms Pc) (PostOf Qc mc ms free) (vx_Post XC mc ms free) := by
  obtain ⟨hrc, hrs, hfr, hlo, hws, hcw, -, hini, -⟩ := cb
  exact vx_back (bytes := bytes) (maxL := maxL) (ret := ret) hM hbl hrc hrs hfr hlo hws hcw (fun a' U hW => word_at hW (Or.inl (by first | rfl | simp [Cond.onTables, Cond.keeps, Cond.steady])) hini)
theorem vx_runV (S : CallFix p m c cc nL s args Ts own) (hM : vx_Met l y ws rm Pc Qc XC mc ms free) (cw : CallW R s args own C index y bytes maxL ret ws rm mc ms n) (hp : PreV s H C b Pc As)
    (hg : g.method = m) (hn : As.length = n) (hsize : g.locals.size = nL) (hstack : g.stack = As.reverse ++ .ref b :: rest) (hW : 2 * g.monitorRoom + (rest.map fun v => v.category).sum ≤ 8) (hdg : decode cc g.pc = .ok (.invokevirtual index, 3)) (hf : cells + mc ≤ R.cells ∧ slots + ms ≤ R.slots) :
    vx_Run p l e R s m args below meth c H locs cells slots mc ms g rest (Qc (Value.ref b :: As).toArray) XC free := by
  have hK : vx_Back l R p e below s args y 3 8 (PreOf R mc ms Pc) (PostOf Qc mc ms free) (vx_Post XC mc ms free) := vx_callBack cw.1 hM hp.1
  obtain ⟨⟨-, -, -, -, -, -, hcode, -, hy, hlen, hl⟩, hin, hse⟩ := cw
  obtain ⟨hx, hb, hml, ho, -⟩ := S
  obtain ⟨-, ⟨cellB, hcB, hoB, hclB⟩, hPc⟩ := hp
  intro T hT X
  rcases vx_callV X hx (C := C) (bytes := bytes) (maxL := maxL) (ret := ret) ho hl hin hse hcode hy hK (by rw [hT]; exact hcB) hoB hclB hg (hsize.trans hml.symm) (argsL := As) (rest := rest) (fun sig h => hn.trans (hlen sig h)) hstack hW (by rw [hb]; exact hdg)
    (fun vm₁ hW₁ => ⟨hf.1, hf.2, hPc (T.setVm vm₁) hT hW₁⟩) with ⟨v, vm₁, ⟨U', l2, c2, s2⟩, hW₁, X', ⟨g', mk, t, L, e1, e2, hq, h1, hL, h2, h3⟩, st⟩ | ⟨q, vm₁, ⟨U', l2, c2, s2⟩, hW₁, X', ⟨g', mk, t, L, E, ce, e1, e2, hq, hce, hcv, hcl, h1, hL, h2, h3⟩, st⟩
  · dsimp only [Pt.U, Pt.locs, Pt.cells, Pt.slots] at X' e1 e2 h1 h2 h3 st
    subst h1; subst h2; subst h3
    exact Or.inl ⟨v, (T.setVm vm₁).calling g' mk (Value.ref b :: As).toArray, t, U', L, hT, X', hL, e1, e2, hq, st⟩
  · dsimp only [Pt.U, Pt.locs, Pt.cells, Pt.slots] at X' e1 e2 h1 h2 h3 st hcl
    subst h1; subst h2; subst h3
    exact Or.inr ⟨q, (T.setVm vm₁).calling g' mk (Value.ref b :: As).toArray, t, U', L, E, ce, hT, X', hL, e1, e2, hq, hce, hcv, vx_cls hW₁ hcl, st⟩
theorem vx_runS (S : CallFix p m c cc nL s args Ts own) (hM : vx_Met l y ws rm Pc Qc XC mc ms free) (cw : CallB R s args own index y bytes maxL ret ws rm mc ms n ∧ (Cond.static y).before args s = true) (hp : PreS s H Pc As)
    (hg : g.method = m) (hn : As.length = n) (hsize : g.locals.size = nL) (hstack : g.stack = As.reverse ++ rest) (hW : 2 * g.monitorRoom + (rest.map fun v => v.category).sum ≤ 8) (hdg : decode cc g.pc = .ok (.invokestatic index, 3)) (hf : cells + mc ≤ R.cells ∧ slots + ms ≤ R.slots) :
    vx_Run p l e R s m args below meth c H locs cells slots mc ms g rest (Qc As.toArray) XC free := by
  have hK : vx_Back l R p e below s args y 3 8 (PreOf R mc ms Pc) (PostOf Qc mc ms free) (vx_Post XC mc ms free) := vx_callBack cw.1 hM hp.1
  obtain ⟨⟨-, -, -, -, -, -, hcode, hini, hy, hlen, hl⟩, hstt⟩ := cw
  obtain ⟨hx, hb, hml, ho, -⟩ := S
  intro T hT X
  rcases vx_callS X hx (bytes := bytes) (maxL := maxL) (ret := ret) ho hl hstt hini hcode hy hK hg (hsize.trans hml.symm) (argsL := As) (rest := rest) (fun sig h => hn.trans (hlen sig h)) hstack hW (by rw [hb]; exact hdg)
    (fun vm₁ hW₁ => ⟨hf.1, hf.2, hp.2 (T.setVm vm₁) hT hW₁⟩) with ⟨v, vm₁, ⟨U', l2, c2, s2⟩, hW₁, X', ⟨g', mk, t, L, e1, e2, hq, h1, hL, h2, h3⟩, st⟩ | ⟨q, vm₁, ⟨U', l2, c2, s2⟩, hW₁, X', ⟨g', mk, t, L, E, ce, e1, e2, hq, hce, hcv, hcl, h1, hL, h2, h3⟩, st⟩
  · dsimp only [Pt.U, Pt.locs, Pt.cells, Pt.slots] at X' e1 e2 h1 h2 h3 st
    subst h1; subst h2; subst h3
    exact Or.inl ⟨v, (T.setVm vm₁).calling g' mk As.toArray, t, U', L, hT, X', hL, e1, e2, hq, st⟩
  · dsimp only [Pt.U, Pt.locs, Pt.cells, Pt.slots] at X' e1 e2 h1 h2 h3 st hcl
    subst h1; subst h2; subst h3
    exact Or.inr ⟨q, (T.setVm vm₁).calling g' mk As.toArray, t, U', L, E, ce, hT, X', hL, e1, e2, hq, hce, hcv, vx_cls hW₁ hcl, st⟩
end Runs
section Rows
variable {p : Program} {l : Launch} {e : Env} {R : Room} {s : State} {m : MethodId} {args : Array Value} {below : List Frame} {meth : Method} {c : Code} {H : Heap} {locs : List Loc} {cells slots : Nat} {Q : State → Prop}
variable {mc ms : Nat} {free : Addr → Prop} {A0 A1 : Nat → Prop} {H0 : Heap} {a : Array Value} {pc : Nat} {ls : Array Slot} {st0 rest : List Value}
theorem vx_keep {st₀ t T' : State} {L : List Loc} (h0 : st₀.heap = H) (e1 : T'.heap = t.heap) (hS : va_S A0 H0 H locs) (hA : ∀ q, q < H.size → A1 q → A0 q) (hf : ∀ q, free q → A0 q) (hL : ∀ q ∈ L, free q.base) (hF : va_F A1 st₀ t) :
    H.size ≤ T'.heap.size ∧ (∀ q : Nat, q < H.size → ¬ A1 q → T'.heap[q]? = H[q]?) ∧ va_S A0 H0 T'.heap (locs ++ L) := by
  obtain ⟨hz, hk⟩ := hF
  rw [h0] at hz hk
  exact ⟨by rw [e1]; exact hz, fun q h1 h2 => by rw [e1]; exact hk q h1 h2,
    ⟨Nat.le_trans hS.1 (by rw [e1]; exact hz), fun q h1 h2 => by rw [e1, hk q (Nat.lt_of_lt_of_le h1 hS.1) (fun z => h2 (hA q (Nat.lt_of_lt_of_le h1 hS.1) z))]; exact hS.2.1 q h1 h2, fun q hq => by
      rcases List.mem_append.mp hq with h | h
      · exact hS.2.2 q h
      · exact hf _ (hL q h)⟩⟩
theorem vx_calli {S SX : Type} {post : Int32 → S → Prop} {px : SX → Prop} {B : S → State → Prop} {BX : String → SX → State → Prop} {AX : Nat → Prop} (hr : vx_Run p l e R s m args below meth c H locs cells slots mc ms (F0 m pc ls st0) rest (va_Qi post B A1 a) (vx_X px BX AX) free) (hS : va_S A0 H0 H locs) (hA : ∀ q, q < H.size → A1 q → A0 q) (hf : ∀ q, free q → A0 q) (hAX : ∀ q, q < H.size → AX q → A0 q)
    (kx : ∀ (E : String) (ce : Cell) (q9 : Addr) (u : SX) (t : State) (H1 : Heap) (locs1 : List Loc), t.heap = H1 → s.vm.Alike t.vm → px u → BX E u t → H.size ≤ H1.size → (∀ q : Nat, q < H.size → ¬ AX q → H1[q]? = H[q]?) → va_S A0 H0 H1 locs1 → H1[q9]? = some ce → ce.vm = .none → s.vm.findClass E = some ce.cls → vx_W p l e R s m args below meth c H1 locs1 (cells + mc) (slots + ms) Q (F0 m pc ls rest) q9)
    (kk : ∀ (r : Int32) (u : S) (t : State) (H1 : Heap) (locs1 : List Loc), t.heap = H1 → s.vm.Alike t.vm → post r u → B u t → H.size ≤ H1.size → (∀ q : Nat, q < H.size → ¬ A1 q → H1[q]? = H[q]?) → va_S A0 H0 H1 locs1 → W p l e R s m args below meth c H1 locs1 (cells + mc) (slots + ms) Q (F0 m (pc + 3) ls (.int r :: rest))) : W p l e R s m args below meth c H locs cells slots Q (F0 m pc ls st0) := by
  intro T hT X
  rcases hr T hT X with ⟨v, st₀, t, T', L, h0, X', hL, e1, e2, ⟨⟨r, u, hv, hp, hb⟩, hF⟩, st⟩ | ⟨q, st₀, t, T', L, E, ce, h0, X', hL, e1, e2, ⟨u, hp, hb, hF⟩, hce, hcv, hcl, st⟩
  · cases hv
    obtain ⟨k1, k2, k3⟩ := vx_keep h0 e1 hS hA hf hL hF
    obtain ⟨t2, a1, b1⟩ := kk r u t T'.heap (locs ++ L) e1.symm (by rw [← e2]; exact X'.warmed.alike) hp hb k1 k2 k3 T' rfl X'
    exact ⟨t2, st t2 a1, b1⟩
  · obtain ⟨k1, k2, k3⟩ := vx_keep h0 e1 hS hAX hf hL hF
    obtain ⟨t2, a1, b1⟩ := kx E ce q u t T'.heap (locs ++ L) e1.symm (by rw [← e2]; exact X'.warmed.alike) hp hb k1 k2 k3 (by rw [e1]; exact hce) hcv hcl T' rfl X'
    exact ⟨t2, st.trans a1, b1⟩
theorem vx_calll {S SX : Type} {post : Int64 → S → Prop} {px : SX → Prop} {B : S → State → Prop} {BX : String → SX → State → Prop} {AX : Nat → Prop} (hr : vx_Run p l e R s m args below meth c H locs cells slots mc ms (F0 m pc ls st0) rest (va_Ql post B A1 a) (vx_X px BX AX) free) (hS : va_S A0 H0 H locs) (hA : ∀ q, q < H.size → A1 q → A0 q) (hf : ∀ q, free q → A0 q) (hAX : ∀ q, q < H.size → AX q → A0 q)
    (kx : ∀ (E : String) (ce : Cell) (q9 : Addr) (u : SX) (t : State) (H1 : Heap) (locs1 : List Loc), t.heap = H1 → s.vm.Alike t.vm → px u → BX E u t → H.size ≤ H1.size → (∀ q : Nat, q < H.size → ¬ AX q → H1[q]? = H[q]?) → va_S A0 H0 H1 locs1 → H1[q9]? = some ce → ce.vm = .none → s.vm.findClass E = some ce.cls → vx_W p l e R s m args below meth c H1 locs1 (cells + mc) (slots + ms) Q (F0 m pc ls rest) q9)
    (kk : ∀ (r : Int64) (u : S) (t : State) (H1 : Heap) (locs1 : List Loc), t.heap = H1 → s.vm.Alike t.vm → post r u → B u t → H.size ≤ H1.size → (∀ q : Nat, q < H.size → ¬ A1 q → H1[q]? = H[q]?) → va_S A0 H0 H1 locs1 → W p l e R s m args below meth c H1 locs1 (cells + mc) (slots + ms) Q (F0 m (pc + 3) ls (.long r :: rest))) : W p l e R s m args below meth c H locs cells slots Q (F0 m pc ls st0) := by
  intro T hT X
  rcases hr T hT X with ⟨v, st₀, t, T', L, h0, X', hL, e1, e2, ⟨⟨r, u, hv, hp, hb⟩, hF⟩, st⟩ | ⟨q, st₀, t, T', L, E, ce, h0, X', hL, e1, e2, ⟨u, hp, hb, hF⟩, hce, hcv, hcl, st⟩
  · cases hv
    obtain ⟨k1, k2, k3⟩ := vx_keep h0 e1 hS hA hf hL hF
    obtain ⟨t2, a1, b1⟩ := kk r u t T'.heap (locs ++ L) e1.symm (by rw [← e2]; exact X'.warmed.alike) hp hb k1 k2 k3 T' rfl X'
    exact ⟨t2, st t2 a1, b1⟩
  · obtain ⟨k1, k2, k3⟩ := vx_keep h0 e1 hS hAX hf hL hF
    obtain ⟨t2, a1, b1⟩ := kx E ce q u t T'.heap (locs ++ L) e1.symm (by rw [← e2]; exact X'.warmed.alike) hp hb k1 k2 k3 (by rw [e1]; exact hce) hcv hcl T' rfl X'
    exact ⟨t2, st.trans a1, b1⟩
theorem vx_callf {S SX : Type} {post : UInt32 → S → Prop} {px : SX → Prop} {B : S → State → Prop} {BX : String → SX → State → Prop} {AX : Nat → Prop} (hr : vx_Run p l e R s m args below meth c H locs cells slots mc ms (F0 m pc ls st0) rest (va_Qf post B A1 a) (vx_X px BX AX) free) (hS : va_S A0 H0 H locs) (hA : ∀ q, q < H.size → A1 q → A0 q) (hf : ∀ q, free q → A0 q) (hAX : ∀ q, q < H.size → AX q → A0 q)
    (kx : ∀ (E : String) (ce : Cell) (q9 : Addr) (u : SX) (t : State) (H1 : Heap) (locs1 : List Loc), t.heap = H1 → s.vm.Alike t.vm → px u → BX E u t → H.size ≤ H1.size → (∀ q : Nat, q < H.size → ¬ AX q → H1[q]? = H[q]?) → va_S A0 H0 H1 locs1 → H1[q9]? = some ce → ce.vm = .none → s.vm.findClass E = some ce.cls → vx_W p l e R s m args below meth c H1 locs1 (cells + mc) (slots + ms) Q (F0 m pc ls rest) q9)
    (kk : ∀ (r : UInt32) (u : S) (t : State) (H1 : Heap) (locs1 : List Loc), t.heap = H1 → s.vm.Alike t.vm → post r u → B u t → H.size ≤ H1.size → (∀ q : Nat, q < H.size → ¬ A1 q → H1[q]? = H[q]?) → va_S A0 H0 H1 locs1 → W p l e R s m args below meth c H1 locs1 (cells + mc) (slots + ms) Q (F0 m (pc + 3) ls (.float r :: rest))) : W p l e R s m args below meth c H locs cells slots Q (F0 m pc ls st0) := by
  intro T hT X
  rcases hr T hT X with ⟨v, st₀, t, T', L, h0, X', hL, e1, e2, ⟨⟨r, u, hv, hp, hb⟩, hF⟩, st⟩ | ⟨q, st₀, t, T', L, E, ce, h0, X', hL, e1, e2, ⟨u, hp, hb, hF⟩, hce, hcv, hcl, st⟩
  · cases hv
    obtain ⟨k1, k2, k3⟩ := vx_keep h0 e1 hS hA hf hL hF
    obtain ⟨t2, a1, b1⟩ := kk r u t T'.heap (locs ++ L) e1.symm (by rw [← e2]; exact X'.warmed.alike) hp hb k1 k2 k3 T' rfl X'
    exact ⟨t2, st t2 a1, b1⟩
  · obtain ⟨k1, k2, k3⟩ := vx_keep h0 e1 hS hAX hf hL hF
    obtain ⟨t2, a1, b1⟩ := kx E ce q u t T'.heap (locs ++ L) e1.symm (by rw [← e2]; exact X'.warmed.alike) hp hb k1 k2 k3 (by rw [e1]; exact hce) hcv hcl T' rfl X'
    exact ⟨t2, st.trans a1, b1⟩
theorem vx_calld {S SX : Type} {post : UInt64 → S → Prop} {px : SX → Prop} {B : S → State → Prop} {BX : String → SX → State → Prop} {AX : Nat → Prop} (hr : vx_Run p l e R s m args below meth c H locs cells slots mc ms (F0 m pc ls st0) rest (va_Qd post B A1 a) (vx_X px BX AX) free) (hS : va_S A0 H0 H locs) (hA : ∀ q, q < H.size → A1 q → A0 q) (hf : ∀ q, free q → A0 q) (hAX : ∀ q, q < H.size → AX q → A0 q)
    (kx : ∀ (E : String) (ce : Cell) (q9 : Addr) (u : SX) (t : State) (H1 : Heap) (locs1 : List Loc), t.heap = H1 → s.vm.Alike t.vm → px u → BX E u t → H.size ≤ H1.size → (∀ q : Nat, q < H.size → ¬ AX q → H1[q]? = H[q]?) → va_S A0 H0 H1 locs1 → H1[q9]? = some ce → ce.vm = .none → s.vm.findClass E = some ce.cls → vx_W p l e R s m args below meth c H1 locs1 (cells + mc) (slots + ms) Q (F0 m pc ls rest) q9)
    (kk : ∀ (r : UInt64) (u : S) (t : State) (H1 : Heap) (locs1 : List Loc), t.heap = H1 → s.vm.Alike t.vm → post r u → B u t → H.size ≤ H1.size → (∀ q : Nat, q < H.size → ¬ A1 q → H1[q]? = H[q]?) → va_S A0 H0 H1 locs1 → W p l e R s m args below meth c H1 locs1 (cells + mc) (slots + ms) Q (F0 m (pc + 3) ls (.double r :: rest))) : W p l e R s m args below meth c H locs cells slots Q (F0 m pc ls st0) := by
  intro T hT X
  rcases hr T hT X with ⟨v, st₀, t, T', L, h0, X', hL, e1, e2, ⟨⟨r, u, hv, hp, hb⟩, hF⟩, st⟩ | ⟨q, st₀, t, T', L, E, ce, h0, X', hL, e1, e2, ⟨u, hp, hb, hF⟩, hce, hcv, hcl, st⟩
  · cases hv
    obtain ⟨k1, k2, k3⟩ := vx_keep h0 e1 hS hA hf hL hF
    obtain ⟨t2, a1, b1⟩ := kk r u t T'.heap (locs ++ L) e1.symm (by rw [← e2]; exact X'.warmed.alike) hp hb k1 k2 k3 T' rfl X'
    exact ⟨t2, st t2 a1, b1⟩
  · obtain ⟨k1, k2, k3⟩ := vx_keep h0 e1 hS hAX hf hL hF
    obtain ⟨t2, a1, b1⟩ := kx E ce q u t T'.heap (locs ++ L) e1.symm (by rw [← e2]; exact X'.warmed.alike) hp hb k1 k2 k3 (by rw [e1]; exact hce) hcv hcl T' rfl X'
    exact ⟨t2, st.trans a1, b1⟩
theorem vx_callv {S SX : Type} {post : S → Prop} {px : SX → Prop} {B : S → State → Prop} {BX : String → SX → State → Prop} {AX : Nat → Prop} (hr : vx_Run p l e R s m args below meth c H locs cells slots mc ms (F0 m pc ls st0) rest (va_Qv post B A1 a) (vx_X px BX AX) free) (hS : va_S A0 H0 H locs) (hA : ∀ q, q < H.size → A1 q → A0 q) (hf : ∀ q, free q → A0 q) (hAX : ∀ q, q < H.size → AX q → A0 q)
    (kx : ∀ (E : String) (ce : Cell) (q9 : Addr) (u : SX) (t : State) (H1 : Heap) (locs1 : List Loc), t.heap = H1 → s.vm.Alike t.vm → px u → BX E u t → H.size ≤ H1.size → (∀ q : Nat, q < H.size → ¬ AX q → H1[q]? = H[q]?) → va_S A0 H0 H1 locs1 → H1[q9]? = some ce → ce.vm = .none → s.vm.findClass E = some ce.cls → vx_W p l e R s m args below meth c H1 locs1 (cells + mc) (slots + ms) Q (F0 m pc ls rest) q9)
    (kk : ∀ (u : S) (t : State) (H1 : Heap) (locs1 : List Loc), t.heap = H1 → s.vm.Alike t.vm → post u → B u t → H.size ≤ H1.size → (∀ q : Nat, q < H.size → ¬ A1 q → H1[q]? = H[q]?) → va_S A0 H0 H1 locs1 → W p l e R s m args below meth c H1 locs1 (cells + mc) (slots + ms) Q (F0 m (pc + 3) ls (rest))) : W p l e R s m args below meth c H locs cells slots Q (F0 m pc ls st0) := by
  intro T hT X
  rcases hr T hT X with ⟨v, st₀, t, T', L, h0, X', hL, e1, e2, ⟨⟨u, hv, hp, hb⟩, hF⟩, st⟩ | ⟨q, st₀, t, T', L, E, ce, h0, X', hL, e1, e2, ⟨u, hp, hb, hF⟩, hce, hcv, hcl, st⟩
  · cases hv
    obtain ⟨k1, k2, k3⟩ := vx_keep h0 e1 hS hA hf hL hF
    obtain ⟨t2, a1, b1⟩ := kk u t T'.heap (locs ++ L) e1.symm (by rw [← e2]; exact X'.warmed.alike) hp hb k1 k2 k3 T' rfl X'
    exact ⟨t2, st t2 a1, b1⟩
  · obtain ⟨k1, k2, k3⟩ := vx_keep h0 e1 hS hAX hf hL hF
    obtain ⟨t2, a1, b1⟩ := kx E ce q u t T'.heap (locs ++ L) e1.symm (by rw [← e2]; exact X'.warmed.alike) hp hb k1 k2 k3 (by rw [e1]; exact hce) hcv hcl T' rfl X'
    exact ⟨t2, st.trans a1, b1⟩
theorem vx_catch {own name : String} {E : String} {ce : Cell} {q : Addr} (hown : s.vm.findClass own = some m.cls) (pre : List ExceptionTableEntry) (x : ExceptionTableEntry) (suf : List ExceptionTableEntry) (hsplit : c.exceptionTable.toList = pre ++ x :: suf)
    (hpass : ∀ z ∈ pre, covers z pc = false ∨ (z.catchType ≠ 0 ∧ ∃ nm : String, (Cond.classLink own z.catchType nm).before args s = true ∧ va_Nc E nm s)) (hx : covers x pc = true) (h0 : x.catchType ≠ 0)
    (hlink : (Cond.classLink own x.catchType name).before args s = true) (hcast : (Cond.castable E name).before args s = true) (hcell : H[q]? = some ce) (hv : ce.vm = .none) (hcl : s.vm.findClass E = some ce.cls)
    (kk : W p l e R s m args below meth c H locs cells slots Q (F0 m x.handlerPc ls [.ref q])) : vx_W p l e R s m args below meth c H locs cells slots Q (F0 m pc ls rest) q := by
  intro T hT X
  have hpl : e.platform.magicAccessors = ({} : Platform).magicAccessors := by rw [X.admits.platform]
  obtain ⟨c3, c4, hc3, hc4, hasg⟩ := Cond.castable_spec hcast
  cases Option.some.inj (hc3.symm.trans hcl)
  obtain ⟨c5, hc5, hcl5⟩ := Cond.classLink_spec hown hlink e.platform hpl
  cases Option.some.inj (hc4.symm.trans hc5)
  obtain ⟨vm', X', st⟩ := X.thenCaughtThrough q (g := F0 m pc ls rest) rfl (Steps.refl _) (by rw [hT]; exact hcell) (by rw [hv]; rfl) (by obtain ⟨k9, h9, -⟩ := Vm.findClass_spec hcl; exact ⟨k9, h9⟩) pre x suf hsplit
    (fun z hz => by
      rcases hpass z hz with h | ⟨hz0, nm, hl1, hn1⟩
      · exact Or.inl h
      · obtain ⟨c6, hc6, hcl6⟩ := Cond.classLink_spec hown hl1 e.platform hpl
        obtain ⟨a8, b8, h1, h2, h3⟩ := hn1
        cases Option.some.inj (h1.symm.trans hcl)
        cases Option.some.inj (h2.symm.trans hc6)
        exact Or.inr ⟨hz0, _, hcl6, h3⟩) hx (Or.inr ⟨h0, c4, hcl5, hasg⟩)
  obtain ⟨t, a1, b1⟩ := kk (T.setVm vm') hT X'
  exact ⟨t, st.trans a1, b1⟩
end Rows
section Ends
variable {p : Program} {l : Launch} {e : Env} {R : Room} {s : State} {m : MethodId} {args : Array Value} {below : List Frame} {meth : Method} {c : Code} {H : Heap} {locs : List Loc} {cells slots : Nat} {Q : State → Prop}
variable {mc ms : Nat} {free : Addr → Prop} {A0 A1 : Nat → Prop} {H0 : Heap} {a : Array Value} {ls : Array Slot} {st0 rest : List Value}
variable {Qc : Array Value → State → Outcome → State → Prop} {XC : String → State → State → Prop}
def vx_MQ (below : List Frame) (Qc : Array Value → State → Outcome → State → Prop) (XC : String → State → State → Prop) (a : Array Value) (s : State) (mc ms : Nat) (free : Addr → Prop) : State → Prop := fun t =>
  ∃ o, t.status = .running ∧ Ended t below o ∧ vx_Q Qc XC mc ms free a s o t
theorem vx_ret {g : JFrame} {mc ms : Nat} (k : W p l e R s m args below meth c H locs cells slots (MQ below Qc args s mc ms free) g) : W p l e R s m args below meth c H locs cells slots (vx_MQ below Qc XC args s mc ms free) g := by
  intro T hT X
  obtain ⟨t, a1, o, b1, b2, b3, b4⟩ := k T hT X
  exact ⟨t, a1, o, b1, b2, Or.inl ⟨b3, b4⟩⟩
theorem vx_widen {g : JFrame} {q : Addr} {k n : Nat} (h1 : cells ≤ k) (h2 : slots ≤ n) (kk : vx_W p l e R s m args below meth c H locs k n Q g q) : vx_W p l e R s m args below meth c H locs cells slots Q g q := fun T hT X => kk T hT (stand_widen X h1 h2)
theorem vx_out {pc : Nat} {E : String} {ce : Cell} {q : Addr} {mc ms : Nat} (hout : ∀ x ∈ c.exceptionTable.toList, covers x pc = false) (hlocks : meth.locks = false) (hcell : H[q]? = some ce) (hv : ce.vm = .none) (hcl : s.vm.findClass E = some ce.cls)
    (hx : ∀ t : State, t.heap = H → s.vm.Alike t.vm → XC E s t) (hf : ∀ z ∈ locs, free z.base) (hc : cells ≤ mc) (hs : slots ≤ ms) :
    vx_W p l e R s m args below meth c H locs cells slots (vx_MQ below Qc XC args s mc ms free) (F0 m pc ls rest) q := by
  intro T hT X
  obtain ⟨st1, hrun, hend, hW, hsm⟩ := X.leaveThrown q (g := F0 m pc ls rest) rfl rfl rfl hout hlocks
  have hcell9 : (T.setFrames (.throwing q :: below)).heap[q]? = some ce := by
    show T.heap[q]? = some ce
    rw [hT]; exact hcell
  exact ⟨_, st1, .threw q, hrun, hend, Or.inr ⟨q, rfl, E, ce, locs, hx _ hT hW.alike, hcell9, hv, hcl, hW, hsm.mono hc hs, hf⟩⟩
theorem vx_frame {U : State} {k n : Nat} (h : s.sameButNew ({ U with vm := s.vm } : State) locs k n) : s.heap.size ≤ U.heap.size ∧ ∀ q : Nat, q < s.heap.size → (∀ z ∈ locs, z.base ≠ q) → U.heap[q]? = s.heap[q]? := by
  obtain ⟨-, h2, -, -, -, h6⟩ := h
  refine ⟨h2, fun q hq hz => ?_⟩
  obtain ⟨c9, e1, e2, e3, e4⟩ := h6 q _ (Array.getElem?_eq_getElem hq)
  have hs : c9.slots = (s.heap[q]).slots := Array.ext_getElem? fun i => e4 i fun hm => hz _ hm rfl
  have h9 : c9 = s.heap[q] := by
    rw [hs] at e2
    exact e2
  have e5 : U.heap[q]? = some c9 := e1
  rw [e5, h9, Array.getElem?_eq_getElem hq]
def vx_no (w : Cond) : Bool := decide (w ≠ .isRef (.static Bundle.tN "UNASSIGNED_STACK" Bundle.steD)) && decide (w ≠ .isRef (.static Bundle.tN "SUPPRESSED_SENTINEL" Bundle.listD)) && decide (w ≠ .laysStatic Bundle.tN "UNASSIGNED_STACK" Bundle.steD) && decide (w ≠ .laysStatic Bundle.tN "SUPPRESSED_SENTINEL" Bundle.listD)
def vx_at0 (own : String) (ic : Nat) (X : String) (names : List String) : List Cond := (Bundle.ownAtoms0 own ic X names).filter vx_no
def vx_atS (own : String) (ic : Nat) (X : String) (names : List String) : List Cond := (Bundle.ownAtoms own ic X names).filter vx_no
def vx_ot (w : Cond) : Bool := w.onTables || goodWord w
theorem vx_ot_at {args a' : Array Value} {s U : State} {w : Cond} (hW : s.WarmedH U.vm) (hvm : s.vm = U.vm) (hg : vx_ot w = true) (h : w.before args s = true) : w.before a' U = true := by
  simp only [vx_ot, Bool.or_eq_true] at hg
  rcases hg with hg | hg
  · exact va_tabs hg hvm h
  · exact word_at hW (good_of_word hg) h
theorem vx_hat {args : Array Value} {s : State} {L B : List Cond} (h1 : ∀ w ∈ L.filter goodWord, w.before args s = true) (h2 : ∀ w ∈ L.filter (fun w => !goodWord w), w ∈ B) (h3 : ∀ w ∈ B, w.before args s = true) : ∀ w ∈ L, w.before args s = true := by
  intro w hw
  by_cases g : goodWord w = true
  · exact h1 w (List.mem_filter.mpr ⟨hw, g⟩)
  · refine h3 w (h2 w (List.mem_filter.mpr ⟨hw, ?_⟩))
    show (!goodWord w) = true
    cases hgw : goodWord w
    · rfl
    · exact absurd hgw g
theorem vx_c {args : Array Value} {s : State} {w : Cond} {B : List Cond} (h : w.before args s = true) (t : ∀ w ∈ B, w.before args s = true) : ∀ w' ∈ w :: B, w'.before args s = true := fun w' h' => (List.mem_cons.mp h').elim (fun e => by rw [e]; exact h) (t w')
theorem vx_n {args : Array Value} {s : State} : ∀ w ∈ ([] : List Cond), w.before args s = true := fun _ h => nomatch h
theorem vx_own {args : Array Value} {s : State} {L : List Cond} (h1 : ∀ w ∈ L.filter vx_no, w.before args s = true)
    (hU : (Cond.isRef (.static Bundle.tN "UNASSIGNED_STACK" Bundle.steD)).before args s = true) (hN : (Cond.isRef (.static Bundle.tN "SUPPRESSED_SENTINEL" Bundle.listD)).before args s = true)
    (lU : (Cond.laysStatic Bundle.tN "UNASSIGNED_STACK" Bundle.steD).before args s = true) (lN : (Cond.laysStatic Bundle.tN "SUPPRESSED_SENTINEL" Bundle.listD).before args s = true) : ∀ w ∈ L, w.before args s = true := by
  intro w hw
  by_cases e1 : w = .isRef (.static Bundle.tN "UNASSIGNED_STACK" Bundle.steD)
  · rw [e1]; exact hU
  · by_cases e2 : w = .isRef (.static Bundle.tN "SUPPRESSED_SENTINEL" Bundle.listD)
    · rw [e2]; exact hN
    · by_cases e3 : w = .laysStatic Bundle.tN "UNASSIGNED_STACK" Bundle.steD
      · rw [e3]; exact lU
      · by_cases e4 : w = .laysStatic Bundle.tN "SUPPRESSED_SENTINEL" Bundle.listD
        · rw [e4]; exact lN
        · exact h1 w (List.mem_filter.mpr ⟨hw, by unfold vx_no; rw [decide_eq_true e1, decide_eq_true e2, decide_eq_true e3, decide_eq_true e4]; rfl⟩)
def vx_L (C n d : String) (A : Nat → Prop) (U : State) (H : Heap) : Prop := ∃ (c : ClassId) (k : Class) (i : Nat) (f : Field) (a : Nat) (cell : Cell), U.vm.findClass C = some c ∧ U.fieldFound? C n d = some (c, k, i, f) ∧ f.isStatic = true ∧ k.statics = some a ∧ H[a]? = some cell ∧ cell.vm.isStatics = true ∧ cell.cls = c ∧ f.slot < cell.slots.size ∧ k.staticTypes[f.slot]? = some f.type ∧ ¬ A a
theorem vx_L.moved {C n d : String} {A : Nat → Prop} {u U : State} {H : Heap} (hvm : u.vm.Alike U.vm) (h : vx_L C n d A u H) : vx_L C n d A U H := by
  obtain ⟨c, k, i, f, a, cell, h1, h2, h3, h4, h5, h6, h7, h8, h9, h10⟩ := h
  obtain ⟨k', hi', he⟩ := State.fieldFound?_setVm hvm h2
  exact ⟨c, k', i, f, a, cell, by rw [hvm.findClass]; exact h1, hi', h3, by rw [he]; exact h4, h5, h6, h7, h8, by rw [he]; exact h9, h10⟩
theorem vx_L.kept {C n d : String} {A : Nat → Prop} {U : State} {H H1 : Heap} (h : vx_L C n d A U H) (hq : ∀ a : Nat, a < H.size → ¬ A a → H1[a]? = H[a]?) : vx_L C n d A U H1 := by
  obtain ⟨c, k, i, f, a, cell, h1, h2, h3, h4, h5, h6, h7, h8, h9, h10⟩ := h
  exact ⟨c, k, i, f, a, cell, h1, h2, h3, h4, by rw [hq a (Array.getElem?_eq_some_iff.mp h5).1 h10]; exact h5, h6, h7, h8, h9, h10⟩
theorem vx_L.narrow {C n d : String} {A B : Nat → Prop} {U : State} {H : Heap} (h : vx_L C n d A U H) (hAB : ∀ q, B q → A q) : vx_L C n d B U H := by
  obtain ⟨c, k, i, f, a, cell, h1, h2, h3, h4, h5, h6, h7, h8, h9, h10⟩ := h
  exact ⟨c, k, i, f, a, cell, h1, h2, h3, h4, h5, h6, h7, h8, h9, fun z => h10 (hAB _ z)⟩
theorem vx_L.word {C n d : String} {A : Nat → Prop} {s : State} {args : Array Value} (h : vx_L C n d A s s.heap) : (Cond.laysStatic C n d).before args s = true := by
  obtain ⟨c, k, i, f, a, cell, h1, h2, h3, h4, h5, h6, h7, h8, h9, -⟩ := h
  show (Cond.laysStatic C n d).holds args s none s [] = true
  exact Cond.laysStatic_of h1 h2 h3 h4 h5 h6 h7 h8 h9
def vx_Zq (C n d : String) (A : Nat → Prop) (U : State) (H : Heap) : Prop := va_Zq C n d A U H ∧ vx_L C n d A U H
theorem vx_Zq.moved {C n d : String} {A : Nat → Prop} {u U : State} {H : Heap} (hvm : u.vm.Alike U.vm) (h : vx_Zq C n d A u H) : vx_Zq C n d A U H := ⟨va_Zq.moved hvm h.1, vx_L.moved hvm h.2⟩
theorem vx_Zq.kept {C n d : String} {A : Nat → Prop} {U : State} {H H1 : Heap} (h : vx_Zq C n d A U H) (hq : ∀ a : Nat, a < H.size → ¬ A a → H1[a]? = H[a]?) : vx_Zq C n d A U H1 := ⟨va_Zq.kept h.1 hq, vx_L.kept h.2 hq⟩
theorem vx_Zq.narrow {C n d : String} {A B : Nat → Prop} {U : State} {H : Heap} (h : vx_Zq C n d A U H) (hAB : ∀ q, B q → A q) : vx_Zq C n d B U H := ⟨va_Zq.narrow h.1 hAB, vx_L.narrow h.2 hAB⟩
theorem vx_Zqof {args : Array Value} {s : State} {C n d : String} {A : Nat → Prop} (hl : (Cond.laysStatic C n d).before args s = true) (hini : (Cond.initialized C).before args s = true) (h : (Cond.isRef (.static C n d)).before args s = true) (hA : ∀ a : Nat, a < s.heap.size → ¬ A a) : vx_Zq C n d A s s.heap := by
  refine ⟨va_Zqof hl hini h hA, ?_⟩
  obtain ⟨c, k, i, f, a, cell, h1, h2, h3, h4, h5, h6, h7, h8, h9⟩ := Cond.laysStatic_spec hl
  exact ⟨c, k, i, f, a, cell, h1, h2, h3, h4, h5, h6, h7, h8, h9, hA a (Array.getElem?_eq_some_iff.mp h5).1⟩
theorem vx_isRef {C n d : String} {v : Value} {A : Nat → Prop} {s : State} {args : Array Value} (h : va_Z C n d v A s s.heap) (hv : v.isRef = true) : (Cond.isRef (.static C n d)).before args s = true := by
  obtain ⟨cf, kf, fi, f, a, cell, h1, h2, h3, h4, h5, h6, h7, -⟩ := h
  have he : (Term.static C n d).eval args s none [] s = some v := by
    simp [Term.eval, State.fieldNamed?, h1, h2, h4, h5, h6, h7]
  simp only [Cond.before, Cond.holds, Cond.value, he]
  cases v <;> simp_all [Value.isRef]
theorem vx_isRefq {C n d : String} {A : Nat → Prop} {s : State} {args : Array Value} (h : va_Zq C n d A s s.heap) : (Cond.isRef (.static C n d)).before args s = true := by
  rcases h with h | ⟨t, h⟩
  · exact vx_isRef h rfl
  · exact vx_isRef h rfl
theorem vx_rebase {T : State} (X : Stand p l e R s m args below meth c T locs cells slots) {R' : Room} (hf : R'.frames ≤ R.frames) (hl : R'.locals ≤ R.locals) (hc : cells + R'.cells ≤ R.cells) (hs : slots + R'.slots ≤ R.slots) :
    Stand p l e R' ((T.setVm s.vm).setFrames (.invoking m args :: below)) m args below meth c T [] 0 0 := by
  have htop : (T.setVm s.vm).topJava?.isSome := X.here.top
  have hF : ((T.setVm s.vm).setFrames (.invoking m args :: below)).frames = .invoking m args :: below := State.frames_setFrames _ (State.cur_lt_of_top htop)
  obtain ⟨g₀, hg0⟩ := Option.isSome_iff_exists.mp htop
  obtain ⟨r, hr⟩ := State.topJava?_eq_some.mp hg0
  have hl9 : e.platform.stackLimits (T.setVm s.vm).me = e.platform.stackLimits s.me := X.limits
  have hb9 : (T.setVm s.vm).me.stackBytes = s.me.stackBytes := X.bytes
  refine ⟨X.admits, X.cas, X.clock, hF, ?_, X.hears, X.method, X.code, X.here, X.tail, X.warmed, ?_, ?_, ?_⟩
  · have h := X.room
    have hU : ((T.setVm s.vm).setFrames (.invoking m args :: below)).localsInUse = s.localsInUse := by
      rw [State.localsInUse_invoking hF (meth := meth) (c := c) X.method X.code, State.localsInUse_invoking X.frames X.method X.code]
    simp only [State.hasRoom, Bool.and_eq_true, decide_eq_true_eq] at h ⊢
    obtain ⟨⟨⟨⟨h1, h2, h3, h4, h5, h6⟩, h7⟩, h8⟩, h9⟩ := h
    rw [X.frames, List.length_cons] at h2 h3
    have q1 := X.heapSize
    have q2 := X.used
    simp only [hF, hU, List.length_cons, State.stackLimits_setFrames, State.stackBytes_setFrames, hl9, hb9]
    refine ⟨⟨⟨⟨by omega, by omega, by omega, by omega, by omega, h6⟩, ?_⟩, ?_⟩, X.book⟩
    · show T.heap.size + R'.cells ≤ e.platform.maxCells
      omega
    · show T.slotsUsed + R'.slots ≤ e.platform.maxSlots
      omega
  · rw [State.stackLimits_setFrames]; rfl
  · rw [State.stackBytes_setFrames]; rfl
  · refine ⟨?_, Nat.le_refl _, Nat.le_refl _, ?_, ?_, fun a c9 h9 => ⟨c9, h9, rfl, rfl, fun _ _ => rfl⟩⟩
    · obtain ⟨t, ht, -⟩ := State.frames_cons hr
      show T.setVm s.vm = { ((T.setVm s.vm).setFrames (.invoking m args :: below)).setFrames (T.setVm s.vm).frames with heap := T.heap, slotsUsed := T.slotsUsed }
      rw [State.setFrames_setFrames, State.setFrames_self ht]
      rfl
    · show T.slotsUsed = T.slotsUsed + ((T.heap.toList.drop T.heap.size).map (·.slots.size)).sum
      rw [List.drop_eq_nil_of_le (Nat.le_of_eq Array.length_toList)]
      rfl
    · show ((T.heap.toList.drop T.heap.size).map (·.slots.size)).sum ≤ 0
      rw [List.drop_eq_nil_of_le (Nat.le_of_eq Array.length_toList)]
      exact Nat.le_refl _
theorem vx_throw0 {cc : ByteArray} {pc : Nat} (hexec : p.tables.exec = Jvm.exec) (hb : c.code = cc) (hl : l.stackTraces = false) {own cls : String} {names : List String} {ik ic mc ms : Nat} {A : Nat → Prop}
    (hown : s.vm.findClass own = some m.cls) (hcls : Bundle.fit cls = true) (hnames : ∀ n ∈ names, Bundle.fit n = true)
    (hk : (Cond.classLink own ik cls).before args s = true) (hini : (Cond.initialized cls).before args s = true) (hat : ∀ w ∈ vx_at0 own ic cls names, w.before args s = true)
    (hgood : ∀ w ∈ Cond.classLink own ik cls :: Cond.initialized cls :: vx_at0 own ic cls names, vx_ot w = true)
    (hU : vx_Zq Bundle.tN "UNASSIGNED_STACK" Bundle.steD A s s.heap) (hN : vx_Zq Bundle.tN "SUPPRESSED_SENTINEL" Bundle.listD A s s.heap) (hS : va_S A s.heap H locs) (hsize : ls.size = c.maxLocals)
    (d0 : decode cc pc = .ok (.new ik, 3)) (d3 : decode cc (pc + 3) = .ok (.dup, 1)) (d4 : decode cc (pc + 4) = .ok (.invokespecial ic, 3)) (d7 : decode cc (pc + 7) = .ok (.athrow, 1))
    (hout : ∀ x ∈ c.exceptionTable.toList, covers x (pc + 7) = false)
    (hRframes : names.length + 3 < R.frames) (hRlocals : (rest.map fun v => v.category).sum + (13 * (names.length + 1) + 42) ≤ R.locals) (hRcells : cells + 1 ≤ R.cells) (hRslots : slots + 6 ≤ R.slots) (hlocks : meth.locks = false)
    (hx : ∀ t : State, s.vm.Alike t.vm → H.size ≤ t.heap.size → (∀ q : Nat, q < H.size → t.heap[q]? = H[q]?) → XC cls s t)
    (hf : ∀ z ∈ locs, free z.base) (hc : cells + 1 ≤ mc) (hs : slots + 6 ≤ ms) :
    W p l e R s m args below meth c H locs cells slots (vx_MQ below Qc XC args s mc ms free) (F0 m pc ls rest) := by
  intro T hT X
  have htr : e.platform.stackTraces = false := (show e.platform.stackTraces = l.stackTraces by rw [X.admits.platform]).trans hl
  have Y := vx_rebase X (R' := { frames := R.frames, locals := R.locals, cells := 1, slots := 6 }) (Nat.le_refl _) (Nat.le_refl _) hRcells hRslots
  obtain ⟨s', hA⟩ : ∃ z, z = (T.setVm s.vm).setFrames (.invoking m args :: below) := ⟨_, rfl⟩
  rw [← hA] at Y
  have hvm : s'.vm = s.vm := by rw [hA]; rfl
  have hhp : s'.heap = H := by rw [hA]; exact hT
  have hW0 : s.WarmedH s'.vm := by rw [hvm]; exact State.WarmedH.refl s
  have hat' : ∀ w ∈ vx_at0 own ic cls names, w.before args s' = true := fun w hw => vx_ot_at hW0 hvm.symm (hgood w (List.mem_cons_of_mem _ (List.mem_cons_of_mem _ hw))) (hat w hw)
  have hk' : (Cond.classLink own ik cls).before args s' = true := vx_ot_at hW0 hvm.symm (hgood _ List.mem_cons_self) hk
  have hini' : (Cond.initialized cls).before args s' = true := vx_ot_at hW0 hvm.symm (hgood _ (List.mem_cons_of_mem _ List.mem_cons_self)) hini
  have hU' : vx_Zq Bundle.tN "UNASSIGNED_STACK" Bundle.steD A s' s'.heap := by rw [hhp]; exact vx_Zq.moved hW0.alike (hU.kept hS.2.1)
  have hN' : vx_Zq Bundle.tN "SUPPRESSED_SENTINEL" Bundle.listD A s' s'.heap := by rw [hhp]; exact vx_Zq.moved hW0.alike (hN.kept hS.2.1)
  have h : ∀ w ∈ Bundle.ownAtoms0 own ic cls names, w.before args s' = true := vx_own hat' (vx_isRefq hU'.1) (vx_isRefq hN'.1) hU'.2.word hN'.2.word
  have hown' : s'.vm.findClass own = some m.cls := by rw [hvm]; exact hown
  have hins : (Cond.instantiable cls 6).before args s' = true := h _ (by simp [Bundle.ownAtoms0])
  obtain ⟨vm₁, cX, kX, hfX, hkX, -, -, X₁, st1⟩ := Y.newCold hexec (own := own) (C := cls) (index := ik) (n := 6) hown' hk' hins hini'
    (g := F0 m pc ls rest) rfl (by rw [hb]; exact d0) (Nat.le_refl _) (Nat.le_refl _)
  generalize hT1 : (T.setVm vm₁).pushCell { cls := cX, slots := kX.instanceTypes.map defaultValue, vm := .none } = T1 at X₁ st1
  have hcat : (Value.ref T.heap.size).category = 1 := rfl
  have hcellA : T1.heap[T.heap.size]? = some (freshCell cX kX) := by rw [← hT1]; exact State.heap_pushCell_size _ _
  have d3' : decode c.code (pc + 3) = .ok (.dup, 1) := by rw [hb]; exact d3
  obtain ⟨U, hsteps, hrun, hend, hW, hsame, ce, hce, hO⟩ := X₁.ctorThrow0 hexec htr (own := own) (cls := cls) (names := names) (ic := ic) hown' hcls hnames h (fun x hx => nomatch hx) hfX hkX hcellA (by rw [hhp, hT]; exact Nat.le_refl _)
    (g := { method := m, pc := pc + 4, locals := ls, stack := .ref T.heap.size :: .ref T.heap.size :: rest, locked := none }) rfl hsize rfl rfl (rest := rest) rfl
    (by rw [hb]; exact d4) (by rw [hb]; exact d7) hout hRframes (by simp only [List.map_cons, List.sum_cons, hcat]; omega) hlocks
  obtain ⟨f1, f2⟩ := vx_frame hsame
  rw [hhp] at f1 f2
  have hWs : s.WarmedH U.vm := State.WarmedH.trans hW0 hW
  have hcl : s.vm.findClass cls = some ce.cls := by
    have h9 := hO.cls
    rw [hvm] at h9
    exact h9
  have hall : s.sameButNew ({ U with vm := s.vm } : State) locs mc ms := by
    subst hA
    obtain ⟨e1, e2⟩ := hsame
    rw [State.setFrames_setFrames] at e1
    have h2 : (T.setVm s.vm).sameButNew ({ U with vm := s.vm } : State) [] (0 + 1) (0 + 6) := ⟨e1, e2⟩
    have h3 := X.same.trans h2
    rw [List.append_nil] at h3
    exact h3.mono hc hs
  refine ⟨U, ?_, .threw T.heap.size, hrun, hend, Or.inr ⟨T.heap.size, rfl, cls, ce, locs, hx U hWs.alike f1 (fun q hq => f2 q hq (fun z hz => nomatch hz)), hce, hO.vm, hcl, hWs, hall, hf⟩⟩
  refine st1 _ ?_
  show Steps p.tables e below (T1.setTop { method := m, pc := pc + 3, locals := ls, stack := .ref T.heap.size :: rest, locked := none }) _
  jvm_step X₁.here [X₁.here.top, hexec, d3', Value.category]
  exact hsteps
theorem vx_throwS {cc : ByteArray} {pc : Nat} (hexec : p.tables.exec = Jvm.exec) (hb : c.code = cc) (hl : l.stackTraces = false) {own cls text : String} {names : List String} {ik is ic mc ms sa : Nat} {A : Nat → Prop}
    (hown : s.vm.findClass own = some m.cls) (hcls : Bundle.fit cls = true) (hnames : ∀ n ∈ names, Bundle.fit n = true)
    (hk : (Cond.classLink own ik cls).before args s = true) (hini : (Cond.initialized cls).before args s = true) (hstr : vk_R own is text sa s) (hat : ∀ w ∈ vx_atS own ic cls names, w.before args s = true)
    (hgood : ∀ w ∈ Cond.classLink own ik cls :: Cond.initialized cls :: vx_atS own ic cls names, vx_ot w = true)
    (hU : vx_Zq Bundle.tN "UNASSIGNED_STACK" Bundle.steD A s s.heap) (hN : vx_Zq Bundle.tN "SUPPRESSED_SENTINEL" Bundle.listD A s s.heap) (hS : va_S A s.heap H locs) (hsize : ls.size = c.maxLocals)
    (d0 : decode cc pc = .ok (.new ik, 3)) (d3 : decode cc (pc + 3) = .ok (.dup, 1)) (d4 : decode cc (pc + 4) = .ok (.ldc is, 2)) (d6 : decode cc (pc + 6) = .ok (.invokespecial ic, 3)) (d9 : decode cc (pc + 9) = .ok (.athrow, 1))
    (hout : ∀ x ∈ c.exceptionTable.toList, covers x (pc + 9) = false)
    (hRframes : names.length + 3 < R.frames) (hRlocals : (rest.map fun v => v.category).sum + (13 * (names.length + 1) + 43) ≤ R.locals) (hRcells : cells + 1 ≤ R.cells) (hRslots : slots + 6 ≤ R.slots) (hlocks : meth.locks = false)
    (hx : ∀ t : State, s.vm.Alike t.vm → H.size ≤ t.heap.size → (∀ q : Nat, q < H.size → t.heap[q]? = H[q]?) → XC cls s t)
    (hf : ∀ z ∈ locs, free z.base) (hc : cells + 1 ≤ mc) (hs : slots + 6 ≤ ms) :
    W p l e R s m args below meth c H locs cells slots (vx_MQ below Qc XC args s mc ms free) (F0 m pc ls rest) := by
  intro T hT X
  have htr : e.platform.stackTraces = false := (show e.platform.stackTraces = l.stackTraces by rw [X.admits.platform]).trans hl
  have Y := vx_rebase X (R' := { frames := R.frames, locals := R.locals, cells := 1, slots := 6 }) (Nat.le_refl _) (Nat.le_refl _) hRcells hRslots
  obtain ⟨s', hA⟩ : ∃ z, z = (T.setVm s.vm).setFrames (.invoking m args :: below) := ⟨_, rfl⟩
  rw [← hA] at Y
  have hvm : s'.vm = s.vm := by rw [hA]; rfl
  have hhp : s'.heap = H := by rw [hA]; exact hT
  have hW0 : s.WarmedH s'.vm := by rw [hvm]; exact State.WarmedH.refl s
  have hat' : ∀ w ∈ vx_atS own ic cls names, w.before args s' = true := fun w hw => vx_ot_at hW0 hvm.symm (hgood w (List.mem_cons_of_mem _ (List.mem_cons_of_mem _ hw))) (hat w hw)
  have hk' : (Cond.classLink own ik cls).before args s' = true := vx_ot_at hW0 hvm.symm (hgood _ List.mem_cons_self) hk
  have hini' : (Cond.initialized cls).before args s' = true := vx_ot_at hW0 hvm.symm (hgood _ (List.mem_cons_of_mem _ List.mem_cons_self)) hini
  have hU' : vx_Zq Bundle.tN "UNASSIGNED_STACK" Bundle.steD A s' s'.heap := by rw [hhp]; exact vx_Zq.moved hW0.alike (hU.kept hS.2.1)
  have hN' : vx_Zq Bundle.tN "SUPPRESSED_SENTINEL" Bundle.listD A s' s'.heap := by rw [hhp]; exact vx_Zq.moved hW0.alike (hN.kept hS.2.1)
  have h : ∀ w ∈ Bundle.ownAtoms own ic cls names, w.before args s' = true := vx_own hat' (vx_isRefq hU'.1) (vx_isRefq hN'.1) hU'.2.word hN'.2.word
  have hown' : s'.vm.findClass own = some m.cls := by rw [hvm]; exact hown
  have hins : (Cond.instantiable cls 6).before args s' = true := h _ (by simp [Bundle.ownAtoms])
  obtain ⟨vm₁, cX, kX, hfX, hkX, -, -, X₁, st1⟩ := Y.newCold hexec (own := own) (C := cls) (index := ik) (n := 6) hown' hk' hins hini'
    (g := F0 m pc ls rest) rfl (by rw [hb]; exact d0) (Nat.le_refl _) (Nat.le_refl _)
  generalize hT1 : (T.setVm vm₁).pushCell { cls := cX, slots := kX.instanceTypes.map defaultValue, vm := .none } = T1 at X₁ st1
  have hcat : (Value.ref T.heap.size).category = 1 := rfl
  have hcellA : T1.heap[T.heap.size]? = some (freshCell cX kX) := by rw [← hT1]; exact State.heap_pushCell_size _ _
  have d3' : decode c.code (pc + 3) = .ok (.dup, 1) := by rw [hb]; exact d3
  have d4' : decode c.code (pc + 4) = .ok (.ldc is, 2) := by rw [hb]; exact d4
  have hstr' : vk_R own is text sa s' := vk_R.warm hW0 hstr
  obtain ⟨U, hsteps, hrun, hend, hW, hsame, ce, hce, hO⟩ := X₁.ctorThrowS hexec htr (own := own) (cls := cls) (names := names) (ic := ic) hown' hcls hnames h (fun x hx => nomatch hx) hfX hkX hcellA (by rw [hhp, hT]; exact Nat.le_refl _) (msg := .ref sa) rfl
    (g := { method := m, pc := pc + 6, locals := ls, stack := .ref sa :: .ref T.heap.size :: .ref T.heap.size :: rest, locked := none }) rfl hsize rfl rfl (rest := rest) rfl
    (by rw [hb]; exact d6) (by rw [hb]; exact d9) hout hRframes (by simp only [List.map_cons, List.sum_cons, hcat]; omega) hlocks
  obtain ⟨f1, f2⟩ := vx_frame hsame
  rw [hhp] at f1 f2
  have hWs : s.WarmedH U.vm := State.WarmedH.trans hW0 hW
  have hcl : s.vm.findClass cls = some ce.cls := by
    have h9 := hO.cls
    rw [hvm] at h9
    exact h9
  have hall : s.sameButNew ({ U with vm := s.vm } : State) locs mc ms := by
    subst hA
    obtain ⟨e1, e2⟩ := hsame
    rw [State.setFrames_setFrames] at e1
    have h2 : (T.setVm s.vm).sameButNew ({ U with vm := s.vm } : State) [] (0 + 1) (0 + 6) := ⟨e1, e2⟩
    have h3 := X.same.trans h2
    rw [List.append_nil] at h3
    exact h3.mono hc hs
  refine ⟨U, ?_, .threw T.heap.size, hrun, hend, Or.inr ⟨T.heap.size, rfl, cls, ce, locs, hx U hWs.alike f1 (fun q hq => f2 q hq (fun z hz => nomatch hz)), hce, hO.vm, hcl, hWs, hall, hf⟩⟩
  refine st1 _ ?_
  show Steps p.tables e below (T1.setTop { method := m, pc := pc + 3, locals := ls, stack := .ref T.heap.size :: rest, locked := none }) _
  jvm_step X₁.here [X₁.here.top, hexec, d3', Value.category]
  exact X₁.ldcString hexec (own := own) (text := text) (index := is) (a := sa) hown' hstr'.1 hstr'.2
    (g := { method := m, pc := pc + 4, locals := ls, stack := .ref T.heap.size :: .ref T.heap.size :: rest, locked := none }) rfl d4' _ hsteps
theorem vx_throwSW {cc : ByteArray} {pc : Nat} (hexec : p.tables.exec = Jvm.exec) (hb : c.code = cc) (hl : l.stackTraces = false) {own cls text : String} {names : List String} {ik is ic mc ms sa : Nat} {A : Nat → Prop}
    (hown : s.vm.findClass own = some m.cls) (hcls : Bundle.fit cls = true) (hnames : ∀ n ∈ names, Bundle.fit n = true)
    (hk : (Cond.classLink own ik cls).before args s = true) (hini : (Cond.initialized cls).before args s = true) (hstr : vk_R own is text sa s) (hat : ∀ w ∈ vx_atS own ic cls names, w.before args s = true)
    (hgood : ∀ w ∈ Cond.classLink own ik cls :: Cond.initialized cls :: vx_atS own ic cls names, vx_ot w = true)
    (hU : vx_Zq Bundle.tN "UNASSIGNED_STACK" Bundle.steD A s s.heap) (hN : vx_Zq Bundle.tN "SUPPRESSED_SENTINEL" Bundle.listD A s s.heap) (hS : va_S A s.heap H locs) (hsize : ls.size = c.maxLocals)
    (d0 : decode cc pc = .ok (.new ik, 3)) (d3 : decode cc (pc + 3) = .ok (.dup, 1)) (d4 : decode cc (pc + 4) = .ok (.ldc_w is, 3)) (d7 : decode cc (pc + 7) = .ok (.invokespecial ic, 3)) (d10 : decode cc (pc + 10) = .ok (.athrow, 1))
    (hout : ∀ x ∈ c.exceptionTable.toList, covers x (pc + 10) = false)
    (hRframes : names.length + 3 < R.frames) (hRlocals : (rest.map fun v => v.category).sum + (13 * (names.length + 1) + 43) ≤ R.locals) (hRcells : cells + 1 ≤ R.cells) (hRslots : slots + 6 ≤ R.slots) (hlocks : meth.locks = false)
    (hx : ∀ t : State, s.vm.Alike t.vm → H.size ≤ t.heap.size → (∀ q : Nat, q < H.size → t.heap[q]? = H[q]?) → XC cls s t)
    (hf : ∀ z ∈ locs, free z.base) (hc : cells + 1 ≤ mc) (hs : slots + 6 ≤ ms) :
    W p l e R s m args below meth c H locs cells slots (vx_MQ below Qc XC args s mc ms free) (F0 m pc ls rest) := by
  intro T hT X
  have htr : e.platform.stackTraces = false := (show e.platform.stackTraces = l.stackTraces by rw [X.admits.platform]).trans hl
  have Y := vx_rebase X (R' := { frames := R.frames, locals := R.locals, cells := 1, slots := 6 }) (Nat.le_refl _) (Nat.le_refl _) hRcells hRslots
  obtain ⟨s', hA⟩ : ∃ z, z = (T.setVm s.vm).setFrames (.invoking m args :: below) := ⟨_, rfl⟩
  rw [← hA] at Y
  have hvm : s'.vm = s.vm := by rw [hA]; rfl
  have hhp : s'.heap = H := by rw [hA]; exact hT
  have hW0 : s.WarmedH s'.vm := by rw [hvm]; exact State.WarmedH.refl s
  have hat' : ∀ w ∈ vx_atS own ic cls names, w.before args s' = true := fun w hw => vx_ot_at hW0 hvm.symm (hgood w (List.mem_cons_of_mem _ (List.mem_cons_of_mem _ hw))) (hat w hw)
  have hk' : (Cond.classLink own ik cls).before args s' = true := vx_ot_at hW0 hvm.symm (hgood _ List.mem_cons_self) hk
  have hini' : (Cond.initialized cls).before args s' = true := vx_ot_at hW0 hvm.symm (hgood _ (List.mem_cons_of_mem _ List.mem_cons_self)) hini
  have hU' : vx_Zq Bundle.tN "UNASSIGNED_STACK" Bundle.steD A s' s'.heap := by rw [hhp]; exact vx_Zq.moved hW0.alike (hU.kept hS.2.1)
  have hN' : vx_Zq Bundle.tN "SUPPRESSED_SENTINEL" Bundle.listD A s' s'.heap := by rw [hhp]; exact vx_Zq.moved hW0.alike (hN.kept hS.2.1)
  have h : ∀ w ∈ Bundle.ownAtoms own ic cls names, w.before args s' = true := vx_own hat' (vx_isRefq hU'.1) (vx_isRefq hN'.1) hU'.2.word hN'.2.word
  have hown' : s'.vm.findClass own = some m.cls := by rw [hvm]; exact hown
  have hins : (Cond.instantiable cls 6).before args s' = true := h _ (by simp [Bundle.ownAtoms])
  obtain ⟨vm₁, cX, kX, hfX, hkX, -, -, X₁, st1⟩ := Y.newCold hexec (own := own) (C := cls) (index := ik) (n := 6) hown' hk' hins hini'
    (g := F0 m pc ls rest) rfl (by rw [hb]; exact d0) (Nat.le_refl _) (Nat.le_refl _)
  generalize hT1 : (T.setVm vm₁).pushCell { cls := cX, slots := kX.instanceTypes.map defaultValue, vm := .none } = T1 at X₁ st1
  have hcat : (Value.ref T.heap.size).category = 1 := rfl
  have hcellA : T1.heap[T.heap.size]? = some (freshCell cX kX) := by rw [← hT1]; exact State.heap_pushCell_size _ _
  have d3' : decode c.code (pc + 3) = .ok (.dup, 1) := by rw [hb]; exact d3
  have d4' : decode c.code (pc + 4) = .ok (.ldc_w is, 3) := by rw [hb]; exact d4
  have hstr' : vk_R own is text sa s' := vk_R.warm hW0 hstr
  obtain ⟨U, hsteps, hrun, hend, hW, hsame, ce, hce, hO⟩ := X₁.ctorThrowS hexec htr (own := own) (cls := cls) (names := names) (ic := ic) hown' hcls hnames h (fun x hx => nomatch hx) hfX hkX hcellA (by rw [hhp, hT]; exact Nat.le_refl _) (msg := .ref sa) rfl
    (g := { method := m, pc := pc + 7, locals := ls, stack := .ref sa :: .ref T.heap.size :: .ref T.heap.size :: rest, locked := none }) rfl hsize rfl rfl (rest := rest) rfl
    (by rw [hb]; exact d7) (by rw [hb]; exact d10) hout hRframes (by simp only [List.map_cons, List.sum_cons, hcat]; omega) hlocks
  obtain ⟨f1, f2⟩ := vx_frame hsame
  rw [hhp] at f1 f2
  have hWs : s.WarmedH U.vm := State.WarmedH.trans hW0 hW
  have hcl : s.vm.findClass cls = some ce.cls := by
    have h9 := hO.cls
    rw [hvm] at h9
    exact h9
  have hall : s.sameButNew ({ U with vm := s.vm } : State) locs mc ms := by
    subst hA
    obtain ⟨e1, e2⟩ := hsame
    rw [State.setFrames_setFrames] at e1
    have h2 : (T.setVm s.vm).sameButNew ({ U with vm := s.vm } : State) [] (0 + 1) (0 + 6) := ⟨e1, e2⟩
    have h3 := X.same.trans h2
    rw [List.append_nil] at h3
    exact h3.mono hc hs
  refine ⟨U, ?_, .threw T.heap.size, hrun, hend, Or.inr ⟨T.heap.size, rfl, cls, ce, locs, hx U hWs.alike f1 (fun q hq => f2 q hq (fun z hz => nomatch hz)), hce, hO.vm, hcl, hWs, hall, hf⟩⟩
  refine st1 _ ?_
  show Steps p.tables e below (T1.setTop { method := m, pc := pc + 3, locals := ls, stack := .ref T.heap.size :: rest, locked := none }) _
  jvm_step X₁.here [X₁.here.top, hexec, d3', Value.category]
  exact X₁.ldcStringW hexec (own := own) (text := text) (index := is) (a := sa) hown' hstr'.1 hstr'.2
    (g := { method := m, pc := pc + 4, locals := ls, stack := .ref T.heap.size :: .ref T.heap.size :: rest, locked := none }) rfl d4' _ hsteps
end Ends
section Bodies
variable {l : Launch}
theorem vx_ofW {y : MethodName} {ws ws' : List Cond} {rm : Room} {Pc : Array Value → State → Prop} {Qc : Array Value → State → Outcome → State → Prop} {XC : String → State → State → Prop} {mc ms : Nat} {free : Addr → Prop} {cc : ByteArray} {maxL : Nat} {ret : Option FieldType}
    (hy : plainName y.cls = true) (hw : ws = Cond.code y cc maxL ret :: ws')
    (body : ∀ p e s m args below meth c s₁, BodyLoose p l y (headSpec ws rm) cc maxL ret e s m args below meth c s₁ → c.maxLocals = maxL → (∀ x ∈ c.exceptionTable.toList, False) → Pc args s →
      W p l e (headSpec ws rm).room s m args below meth c s.heap [] 0 0 (vx_MQ below Qc XC args s mc ms free) (entryFrame m args maxL)) : vx_Met l y ws rm Pc Qc XC mc ms free := by
  refine MetFree.of_bodyS (code := cc) (maxLocals := maxL) (ret := ret) hy ?_ ?_
  · intro args s m h hn
    obtain ⟨meth, c, h1, h2, h3, h4, h5, h6, -, -⟩ := Cond.code_spec hn (atoms_spec (ws := ws) h _ (by rw [hw]; exact List.mem_cons_self))
    exact ⟨meth, c, h1, h2, h3, h4, h5, h6⟩
  · intro p e s m args below meth c s₁ B hml hP _
    have hh0 : s₁.heap = s.heap := by rw [B.state]; rfl
    have ht : ∀ x ∈ c.exceptionTable.toList, False := by
      obtain ⟨meth9, c9, h1, h2, -, -, -, -, h7, -⟩ := Cond.code_spec B.named (atoms_spec (ws := ws) B.pre _ (by rw [hw]; exact List.mem_cons_self))
      cases Option.some.inj (h1.symm.trans B.method)
      cases Option.some.inj (h2.symm.trans (Stand.of_body B).code)
      intro x hx
      rw [Array.isEmpty_iff.mp h7] at hx
      cases hx
    obtain ⟨t, a1, o, b1, b2, b3⟩ := body p e s m args below meth c s₁ B hml ht hP s₁ hh0 (Stand.of_body B)
    exact ⟨t, o, a1, b1, b2, b3⟩
theorem vx_table {p : Program} {x y : MethodName} {S : Spec} {cc bytes : ByteArray} {maxL maxL' : Nat} {ret ret' : Option FieldType} {e : Env} {s s₁ : State} {m : MethodId} {args : Array Value} {below : List Frame} {meth : Method} {c : Code} {hh : List (Nat × Nat × Nat × Nat)}
    (B : BodyLoose p l y S cc maxL ret e s m args below meth c s₁) (h : (Cond.codeWith y bytes maxL' ret' hh).before args s = true) : c.exceptionTable.toList = tableOf hh := by
  obtain ⟨m9, meth9, c9, hn9, h1, h2, -, -, h6, -⟩ := Cond.codeWith_spec h
  cases Option.some.inj (hn9.symm.trans B.named)
  cases Option.some.inj (h1.symm.trans B.method)
  cases Option.some.inj (h2.symm.trans (Stand.of_body B).code)
  rw [← h6, table_eq]
end Bodies
end VXA
section VXS
variable {p : Program} {l : Launch} {e : Env} {R : Room} {s : State} {m : MethodId} {args : Array Value} {below : List Frame} {meth : Method} {c : Code} {T : State} {H : Heap} {locs : List Loc} {cells slots : Nat}
abbrev vx_CSW (R : Room) (s : State) (args : Array Value) (own : String) (index : Nat) (y : MethodName) (bytes : ByteArray) (maxL : Nat) (ret : Option FieldType) (hh : List (Nat × Nat × Nat × Nat)) (ws : List Cond) (rm : Room) (mc ms n : Nat) : Prop :=
  (rm.cells = mc ∧ rm.slots = ms ∧ rm.frames + 1 ≤ R.frames ∧ 8 + (maxL + 11) + rm.locals ≤ R.locals ∧ (∀ w ∈ ws, ∀ (a' : Array Value) (U : State), s.WarmedH U.vm → w.before a' U = true) ∧ Cond.codeWith y bytes maxL ret hh ∈ ws) ∧
  (Cond.codeWith y bytes maxL ret hh).before args s = true ∧ (Cond.initialized y.cls).before args s = true ∧ (y.cls ≠ "java/lang/invoke/MethodHandle" ∧ y.cls ≠ "java/lang/invoke/VarHandle") ∧
  (∀ sig, parseMethodDescriptor y.desc = some sig → n = sig.parameters.length) ∧ (Cond.methodLink own index y).before args s = true ∧ (Cond.static y).before args s = true
theorem vx_cwSW {own : String} {index maxL mc ms : Nat} {y : MethodName} {bytes : ByteArray} {ret : Option FieldType} {hh : List (Nat × Nat × Nat × Nat)} {Ts ws ws' : List Cond} {rm : Room} (n : Nat) (ht : ∀ w ∈ Ts, w.before args s = true) (hT : GoodIn Ts (va_wsS own index y ws)) (hw : ws = Cond.codeWith y bytes maxL ret hh :: ws') (hrc : rm.cells = mc) (hrs : rm.slots = ms)
    (hd : y.cls ≠ "java/lang/invoke/MethodHandle" ∧ y.cls ≠ "java/lang/invoke/VarHandle" ∧ (parseMethodDescriptor y.desc).map (fun d => d.parameters.length) = some n) (hR : rm.frames + 1 ≤ R.frames ∧ 8 + (maxL + 11) + rm.locals ≤ R.locals) :
    vx_CSW R s args own index y bytes maxL ret hh ws rm mc ms n := by
  have ok : ∀ w ∈ va_wsS own index y ws, w.before args s = true := fun w h => ht w (hT w h).1
  have hG : GoodIn Ts ws := fun w h => hT w (by unfold va_wsS; exact List.mem_append_right _ h)
  have hc : Cond.codeWith y bytes maxL ret hh ∈ ws := by rw [hw]; exact List.mem_cons_self
  refine ⟨⟨hrc, hrs, hR.1, hR.2, pay_in ht hG, hc⟩, ht _ (hG _ hc).1, ok _ (by simp [va_wsS]), ⟨hd.1, hd.2.1⟩, fun sig h => ?_, ok _ (by simp [va_wsS]), ok _ (by simp [va_wsS])⟩
  have h2 := hd.2.2
  rw [h] at h2
  exact (Option.some.inj h2).symm
theorem vx_callSW (X : Stand p l e R s m args below meth c T locs cells slots) (hexec : p.tables.exec = Jvm.exec) {own : String} {index : Nat} {y : MethodName} {bytes : ByteArray} {maxL : Nat} {ret : Option FieldType} {hh : List (Nat × Nat × Nat × Nat)}
    (hown : s.vm.findClass own = some m.cls) (hlink : (Cond.methodLink own index y).before args s = true) (hstat : (Cond.static y).before args s = true) (hinit : (Cond.initialized y.cls).before args s = true)
    (hcode : (Cond.codeWith y bytes maxL ret hh).before args s = true) (hy : y.cls ≠ "java/lang/invoke/MethodHandle" ∧ y.cls ≠ "java/lang/invoke/VarHandle")
    {W9 : Nat} {Pre : Pt → Array Value → Prop} {Post : Pt → Array Value → Option Value → Pt → Prop} (hK : Back l R p e below s args y 3 W9 Pre Post)
    {g : JFrame} (hg : g.method = m) (hsize : g.locals.size = c.maxLocals) {argsL rest : List Value} (hlen : ∀ sig, parseMethodDescriptor y.desc = some sig → argsL.length = sig.parameters.length)
    (hstack : g.stack = argsL.reverse ++ rest) (hW : 2 * g.monitorRoom + (rest.map fun v => v.category).sum ≤ W9) (hdg : decode c.code g.pc = .ok (.invokestatic index, 3))
    (hpre : ∀ vm₁, s.WarmedH vm₁ → Pre ⟨T.setVm vm₁, locs, cells, slots⟩ argsL.toArray) :
    ∃ (v : Option Value) (vm₁ : Vm) (B : Pt), s.WarmedH vm₁ ∧ Stand p l e R s m args below meth c B.U B.locs B.cells B.slots ∧ Post ⟨T.setVm vm₁, locs, cells, slots⟩ argsL.toArray v B ∧
      ∀ target, Steps p.tables e below (B.U.setTop { g with pc := g.pc + 3, stack := v.toList ++ rest }) target → Steps p.tables e below (T.setTop g) target := by
  obtain ⟨mk, methM, cM, hnamed, hmethM, -, -, -, -, -, -, hsigM⟩ := Cond.codeWith_spec hcode
  have hstatic : methM.isStatic = true := Cond.static_spec hnamed hmethM hstat
  obtain ⟨kP, hkP, -⟩ := className_of_methodNamed hnamed
  have hinitP : kP.init = .initialized := Cond.initialized_spec (findClass_of_methodNamed hnamed) hkP hinit
  obtain ⟨vm₁, X₁, hstep₁⟩ := X.invokestatic hexec hown hlink hnamed hmethM hstatic hkP hinitP hy (g := g) hg (argsL := argsL) (rest := rest) (hlen _ hsigM) hstack hdg
  obtain ⟨v, B, X', hpost, hsteps⟩ := hK m meth c ⟨T.setVm vm₁, locs, cells, slots⟩ { g with stack := rest } (.invokestatic index) mk argsL.toArray X₁ hg hsize hdg hW (X₁.named hnamed) (hpre vm₁ X₁.warmed)
  exact ⟨v, vm₁, B, X₁.warmed, X', hpost, fun target h => hstep₁ _ fun acts => by rw [doInvoke_state]; exact hsteps.trans h⟩
theorem vx_runSW {y : MethodName} {bytes cc : ByteArray} {maxL nL mc ms n index : Nat} {ret : Option FieldType} {hh : List (Nat × Nat × Nat × Nat)} {ws : List Cond} {rm : Room} {Pc : Array Value → State → Prop} {Qc : Array Value → State → Outcome → State → Prop} {free : Addr → Prop} {Ts : List Cond} {own : String} {As rest : List Value} {g : JFrame}
    (S : CallFix p m c cc nL s args Ts own) (hM : Met l y ws rm Pc Qc mc ms free) (cw : vx_CSW R s args own index y bytes maxL ret hh ws rm mc ms n) (hp : PreS s H Pc As)
    (hg : g.method = m) (hn : As.length = n) (hsize : g.locals.size = nL) (hstack : g.stack = As.reverse ++ rest) (hW : 2 * g.monitorRoom + (rest.map fun v => v.category).sum ≤ 8) (hdg : decode cc g.pc = .ok (.invokestatic index, 3)) (hf : cells + mc ≤ R.cells ∧ slots + ms ≤ R.slots) :
    va_Run p l e R s m args below meth c H locs cells slots mc ms g rest (Qc As.toArray) (free) := by
  obtain ⟨⟨hrc, hrs, hfr, hlo, hws, hcw⟩, hcode, hini, hy, hlen, hl, hstt⟩ := cw
  have hK : Back l R p e below s args y 3 8 (PreOf R mc ms Pc) (PostOf Qc mc ms free) := va_backW (hh := hh) (bytes := bytes) (maxL := maxL) (ret := ret) hM hp.1 hrc hrs hfr hlo hws hcw (fun a' U hW => word_at hW (Or.inl (by first | rfl | simp [Cond.onTables, Cond.keeps, Cond.steady])) hini)
  obtain ⟨hx, hb, hml, ho, -⟩ := S
  intro T hT X
  obtain ⟨v, vm₁, ⟨U', l2, c2, s2⟩, hW₁, X', ⟨g', mk, t, L, e1, e2, hq, h1, hL, h2, h3⟩, st⟩ := vx_callSW X hx (hh := hh) (bytes := bytes) (maxL := maxL) (ret := ret) ho hl hstt hini hcode hy hK hg (hsize.trans hml.symm) (argsL := As) (rest := rest) (fun sig h => hn.trans (hlen sig h)) hstack hW (by rw [hb]; exact hdg)
    (fun vm₁ hW₁ => ⟨hf.1, hf.2, hp.2 (T.setVm vm₁) hT hW₁⟩)
  dsimp only [Pt.U, Pt.locs, Pt.cells, Pt.slots] at X' e1 e2 h1 h2 h3 st
  subst h1; subst h2; subst h3
  exact ⟨v, (T.setVm vm₁).calling g' mk As.toArray, t, U', L, hT, X', hL, e1, e2, hq, st⟩
theorem vx_outP {p : Program} {l : Launch} {e : Env} {R : Room} {s : State} {m : MethodId} {args : Array Value} {below : List Frame} {meth : Method} {c : Code} {H : Heap} {locs : List Loc} {cells slots : Nat} {free : Addr → Prop} {ls : Array Slot} {rest : List Value} {Qc : Array Value → State → Outcome → State → Prop} {XC : String → State → State → Prop}
    {pc : Nat} {own E : String} {ce : Cell} {q : Addr} {mc ms : Nat} (hown : s.vm.findClass own = some m.cls) (hlocks : meth.locks = false)
    (hpass : ∀ z ∈ c.exceptionTable.toList, covers z pc = false ∨ (z.catchType ≠ 0 ∧ ∃ nm : String, (Cond.classLink own z.catchType nm).before args s = true ∧ va_Nc E nm s)) (hcell : H[q]? = some ce) (hv : ce.vm = .none) (hcl : s.vm.findClass E = some ce.cls)
    (hx : ∀ t : State, t.heap = H → s.vm.Alike t.vm → XC E s t) (hf : ∀ z ∈ locs, free z.base) (hc : cells ≤ mc) (hs : slots ≤ ms) :
    vx_W p l e R s m args below meth c H locs cells slots (vx_MQ below Qc XC args s mc ms free) (F0 m pc ls rest) q := by
  intro T hT X
  have hpl : e.platform.magicAccessors = ({} : Platform).magicAccessors := by rw [X.admits.platform]
  obtain ⟨vm', hW', X', st⟩ := X.outThrough hlocks q (g := F0 m pc ls rest) rfl rfl rfl (cell := ce) (by rw [hT]; exact hcell) (by rw [hv]; rfl)
    (by obtain ⟨k9, h9, -⟩ := Vm.findClass_spec hcl; exact ⟨k9, h9⟩) (fun z hz => by
      rcases hpass z hz with h | ⟨hz0, nm, hl1, hn1⟩
      · exact Or.inl h
      · obtain ⟨c6, hc6, hcl6⟩ := Cond.classLink_spec hown hl1 e.platform hpl
        obtain ⟨a8, b8, h1, h2, h3⟩ := hn1
        cases Option.some.inj (h1.symm.trans hcl)
        cases Option.some.inj (h2.symm.trans hc6)
        exact Or.inr ⟨hz0, _, hcl6, h3⟩)
  obtain ⟨g₀, hfr⟩ := X'.frames_eq
  have hcell9 : ((T.setVm vm').setFrames (.throwing q :: below)).heap[q]? = some ce := by
    show T.heap[q]? = some ce
    rw [hT]; exact hcell
  have hend : Ended ((T.setVm vm').setFrames (.throwing q :: below)) below (.threw q) := State.frames_setFrames _ (State.cur_lt_of_frames hfr)
  refine ⟨(T.setVm vm').setFrames (.throwing q :: below), ?_, .threw q, X'.here.running, hend, Or.inr ⟨q, rfl, E, ce, locs, hx _ hT (X'.ends _).1.alike, hcell9, hv, hcl, (X'.ends _).1, (X'.ends _).2.mono hc hs, hf⟩⟩
  rw [X.pushThrowing_eq]
  exact st
theorem vx_lt {D : va_G} {cl : List vw_C} {ws : va_W} {H1 : Heap} (h : va_P D cl ws H1) {k : Nat} {q : Nat × va_E} (hk : ws[k]? = some q) : q.1 < H1.size := (h k q hk).lt
end VXS
section VXH
section
variable {l : Launch} {R : Room} {p : Program} {e : Env} {below : List Frame} {s : State} {sargs : Array Value} {y : MethodName} {len W9 : Nat}
theorem vx_backW {ws : List Cond} {rm : Room} {Pc : Array Value → State → Prop} {Qc : Array Value → State → Outcome → State → Prop} {XC : String → State → State → Prop} {mc ms : Nat} {free : Addr → Prop} {bytes : ByteArray} {maxL : Nat} {ret : Option FieldType} {hh : List (Nat × Nat × Nat × Nat)}
    (hM : vx_Met l y ws rm Pc Qc XC mc ms free) (hblind : FrameBlind Pc) (hrc : rm.cells = mc) (hrs : rm.slots = ms)
    (hframes : rm.frames + 1 ≤ R.frames) (hlocals : W9 + (maxL + 11) + rm.locals ≤ R.locals)
    (hws : ∀ w ∈ ws, ∀ a' U, s.WarmedH U.vm → w.before a' U = true) (hcode : Cond.codeWith y bytes maxL ret hh ∈ ws) (hinit : ∀ a' U, s.WarmedH U.vm → (Cond.initialized y.cls).before a' U = true) :
    vx_Back l R p e below s sargs y len W9 (PreOf R mc ms Pc) (PostOf Qc mc ms free) (vx_Post XC mc ms free) := by
  intro m meth c A g ig mk a X hg hsize hdg hW hn hp
  have h1 : (headSpec ws rm).pre.before a A.U = true := atoms_intro fun w hw => hws w hw _ _ X.warmed
  have h2 : (Cond.codeWith y bytes maxL ret hh).before a A.U = true := hws _ hcode _ _ X.warmed
  have h3 : (Cond.initialized y.cls).before a A.U = true := hinit _ _ X.warmed
  have h4 : A.cells + (headSpec ws rm).room.cells ≤ R.cells := by rw [show (headSpec ws rm).room.cells = mc from hrc]; exact hp.1
  have h5 : A.slots + (headSpec ws rm).room.slots ≤ R.slots := by rw [show (headSpec ws rm).room.slots = ms from hrs]; exact hp.2.1
  have hPc : Pc a (A.U.calling g mk a) := hblind _ _ _ _ hp.2.2
  obtain ⟨U, Ls, c0, s0⟩ := A
  dsimp only [Pt.U, Pt.locs, Pt.cells, Pt.slots] at h1 h2 h3 h4 h5 X hn hPc ⊢
  obtain ⟨m9, methY, cY, hn9, hmY, hcY, -, hlY, -⟩ := Cond.codeWith_spec h2
  cases Option.some.inj (hn9.symm.trans hn)
  obtain ⟨kY, hkY, -⟩ := className_of_methodNamed hn
  have hinitY : kY.init = .initialized := Cond.initialized_spec (findClass_of_methodNamed hn) hkY h3
  have h : At U g.method c below := by rw [hg]; exact X.here
  have hlocals9 : W9 + (maxL + 11) + (headSpec ws rm).room.locals ≤ R.locals := hlocals
  have happ : (headSpec ws rm).appliesLoose y e.platform (U.calling g mk a) = true :=
    Spec.appliesLoose_calling (g := g) h hdg hn hkY hinitY
      (X.room_calling (g := g) (R' := (headSpec ws rm).room) hsize hmY hcY hframes (by rw [hlY]; omega) h4 h5) h1
  obtain ⟨mid, hmid⟩ := h.above
  have hfr : (U.setTop g).frames = (.java g :: mid) ++ below := by rw [State.frames_setTop' g h.top, hmid]; rfl
  obtain ⟨o, s₂, hsteps, -, hend, hq⟩ := Steps.callFree hM p X.admits X.cas X.clock (acts := []) hfr happ hPc trivial
  have hq' : vx_Q Qc XC mc ms free a (U.calling g mk a) o s₂ := hq
  rw [State.frames_setTop' g h.top] at hend
  obtain ⟨g₀, hg0⟩ := Option.isSome_iff_exists.mp h.top
  obtain ⟨r, hr⟩ := State.topJava?_eq_some.mp hg0
  have hr' : (({ U with heap := s₂.heap, slotsUsed := s₂.slotsUsed } : State).setVm s₂.vm).frames = .java g₀ :: r := hr
  rcases hq' with ⟨hqc, L, hfe, hL⟩ | ⟨q, rfl, E, ce, L, hx, hce, hcv, hcl, hW₂, hsm, hL⟩
  · obtain ⟨⟨v, rfl⟩, hW₂, e2, q2, q3, q4, q5, q6⟩ := id hfe
    have e3 : s₂ = ({ (U.calling g mk a).setFrames s₂.frames with heap := s₂.heap, slotsUsed := s₂.slotsUsed } : State).setVm s₂.vm := by
      have : s₂ = ({ s₂ with vm := (U.calling g mk a).vm } : State).setVm s₂.vm := rfl
      rw [e2] at this
      exact this
    obtain ⟨c₂, i₂, len₂, hc₂, hd₂, hf₂⟩ := hend
    have hW' : U.WarmedH s₂.vm := hW₂
    have hcc : c₂ = c := by
      have h1 : s₂.code? g.method = U.code? g.method := by
        rw [State.code?_eq, State.code?_eq, hW'.alike.method?]
      exact Option.some.inj (hc₂.symm.trans (h1.trans h.code))
    subst hcc
    have hlen : len₂ = len := by rw [hdg] at hd₂; cases hd₂; rfl
    subst hlen
    have hs₂ : s₂ = (({ U with heap := s₂.heap, slotsUsed := s₂.slotsUsed } : State).setVm s₂.vm).setTop { g with pc := g.pc + len₂, stack := v.toList ++ g.stack } := by
      refine e3.trans ?_
      rw [hf₂, State.calling_eq h.top, State.setFrames_setFrames, State.setTop_of_frames _ hr', hr]
      rfl
    have hsame : U.sameButNew ({ U with heap := s₂.heap, slotsUsed := s₂.slotsUsed } : State) L mc ms := by
      refine ⟨?_, q2, q3, q4, q5, q6⟩
      obtain ⟨t, ht, -⟩ := State.frames_cons hr
      show ({ U with heap := s₂.heap, slotsUsed := s₂.slotsUsed } : State) = { U.setFrames U.frames with heap := s₂.heap, slotsUsed := s₂.slotsUsed }
      rw [State.setFrames_self ht]
    subst hg
    refine Or.inl ⟨v, ⟨(({ U with heap := s₂.heap, slotsUsed := s₂.slotsUsed } : State).setVm s₂.vm), Ls ++ L, c0 + mc, s0 + ms⟩,
      ⟨X.admits, X.cas, X.clock, X.frames, X.room, X.hears, X.method, X.code, (X.here.setHeapUsed s₂.heap s₂.slotsUsed).setVm hW'.alike, X.tail, State.WarmedH.trans X.warmed hW', X.limits, X.bytes, X.same.trans (hsame.setVm s.vm)⟩,
      ⟨g, mk, s₂, L, rfl, rfl, hqc, rfl, hL, rfl, rfl⟩, ?_⟩
    show Steps p.tables e below _ ((({ U with heap := s₂.heap, slotsUsed := s₂.slotsUsed } : State).setVm s₂.vm).setTop { g with pc := g.pc + len₂, stack := v.toList ++ g.stack })
    rw [← hs₂]
    exact hsteps
  · obtain ⟨e2, q2, q3, q4, q5, q6⟩ := id hsm
    have e3 : s₂ = ({ (U.calling g mk a).setFrames s₂.frames with heap := s₂.heap, slotsUsed := s₂.slotsUsed } : State).setVm s₂.vm := by
      have : s₂ = ({ s₂ with vm := (U.calling g mk a).vm } : State).setVm s₂.vm := rfl
      rw [e2] at this
      exact this
    have hf₂ : s₂.frames = .throwing q :: .java g :: U.frames.tail := hend
    have hW' : U.WarmedH s₂.vm := hW₂
    have hs₂ : s₂ = ((({ U with heap := s₂.heap, slotsUsed := s₂.slotsUsed } : State).setVm s₂.vm).setTop g).pushFrame (.throwing q) := by
      refine e3.trans ?_
      rw [hf₂, State.calling_eq h.top, State.setFrames_setFrames, State.pushFrame, State.frames_setTop _ hr', State.setTop_of_frames _ hr', State.setFrames_setFrames, hr]
      rfl
    have hsame : U.sameButNew ({ U with heap := s₂.heap, slotsUsed := s₂.slotsUsed } : State) L mc ms := by
      refine ⟨?_, q2, q3, q4, q5, q6⟩
      obtain ⟨t, ht, -⟩ := State.frames_cons hr
      show ({ U with heap := s₂.heap, slotsUsed := s₂.slotsUsed } : State) = { U.setFrames U.frames with heap := s₂.heap, slotsUsed := s₂.slotsUsed }
      rw [State.setFrames_self ht]
    subst hg
    refine Or.inr ⟨q, ⟨(({ U with heap := s₂.heap, slotsUsed := s₂.slotsUsed } : State).setVm s₂.vm), Ls ++ L, c0 + mc, s0 + ms⟩,
      ⟨X.admits, X.cas, X.clock, X.frames, X.room, X.hears, X.method, X.code, (X.here.setHeapUsed s₂.heap s₂.slotsUsed).setVm hW'.alike, X.tail, State.WarmedH.trans X.warmed hW', X.limits, X.bytes, X.same.trans (hsame.setVm s.vm)⟩,
      ⟨g, mk, s₂, L, E, ce, rfl, rfl, hx, hce, hcv, hcl, rfl, hL, rfl, rfl⟩, ?_⟩
    show Steps p.tables e below _ (((({ U with heap := s₂.heap, slotsUsed := s₂.slotsUsed } : State).setVm s₂.vm).setTop g).pushFrame (.throwing q))
    rw [← hs₂]
    exact hsteps
end
variable {p : Program} {l : Launch} {e : Env} {R : Room} {s : State} {m : MethodId} {args : Array Value} {below : List Frame} {meth : Method} {c : Code} {T : State} {H : Heap} {locs : List Loc} {cells slots : Nat}
theorem vx_callVX (X : Stand p l e R s m args below meth c T locs cells slots) (hexec : p.tables.exec = Jvm.exec) {own C : String} {index : Nat} {y : MethodName} {bytes : ByteArray} {maxL : Nat} {ret : Option FieldType} {hh : List (Nat × Nat × Nat × Nat)}
    (hown : s.vm.findClass own = some m.cls) (hlink : (Cond.methodLink own index y).before args s = true) (hinst : (Cond.instanceMethod y).before args s = true) (hsel : (Cond.selects C y y).before args s = true)
    (hcode : (Cond.codeWith y bytes maxL ret hh).before args s = true) (hy : y.cls ≠ "java/lang/invoke/MethodHandle" ∧ y.cls ≠ "java/lang/invoke/VarHandle")
    {W9 : Nat} {Pre : Pt → Array Value → Prop} {Post : Pt → Array Value → Option Value → Pt → Prop} {PostX : Pt → Array Value → Addr → Pt → Prop} (hK : vx_Back l R p e below s args y 3 W9 Pre Post PostX)
    {b : Addr} {cellB : Cell} (hcell : T.heap[b]? = some cellB) (hobj : cellB.vm.isStatics = false) (hcls : s.vm.findClass C = some cellB.cls)
    {g : JFrame} (hg : g.method = m) (hsize : g.locals.size = c.maxLocals) {argsL rest : List Value} (hlen : ∀ sig, parseMethodDescriptor y.desc = some sig → argsL.length = sig.parameters.length)
    (hstack : g.stack = argsL.reverse ++ .ref b :: rest) (hW : 2 * g.monitorRoom + (rest.map fun v => v.category).sum ≤ W9) (hdg : decode c.code g.pc = .ok (.invokevirtual index, 3))
    (hpre : ∀ vm₁, s.WarmedH vm₁ → Pre ⟨T.setVm vm₁, locs, cells, slots⟩ (Value.ref b :: argsL).toArray) :
    (∃ (v : Option Value) (vm₁ : Vm) (B : Pt), s.WarmedH vm₁ ∧ Stand p l e R s m args below meth c B.U B.locs B.cells B.slots ∧ Post ⟨T.setVm vm₁, locs, cells, slots⟩ (Value.ref b :: argsL).toArray v B ∧
      ∀ target, Steps p.tables e below (B.U.setTop { g with pc := g.pc + 3, stack := v.toList ++ rest }) target → Steps p.tables e below (T.setTop g) target) ∨
    (∃ (q : Addr) (vm₁ : Vm) (B : Pt), s.WarmedH vm₁ ∧ Stand p l e R s m args below meth c B.U B.locs B.cells B.slots ∧ PostX ⟨T.setVm vm₁, locs, cells, slots⟩ (Value.ref b :: argsL).toArray q B ∧
      Steps p.tables e below (T.setTop g) ((B.U.setTop { g with stack := rest }).pushFrame (.throwing q))) := by
  obtain ⟨mk, methM, hnamed, hmethM, hstM, habM⟩ := Cond.instanceMethod_spec hinst
  obtain ⟨m8, methM', cM, hn8, hmethM', -, -, -, -, -, -, hsigM⟩ := Cond.codeWith_spec hcode
  cases Option.some.inj (hn8.symm.trans hnamed)
  cases hmethM.symm.trans hmethM'
  obtain ⟨c2, r2, m2, q1, q2, q3, q4, kP, hkP, hkPi⟩ := Cond.selects_spec hsel
  cases hcls.symm.trans q1
  cases (State.methodFound?_of_named hnamed hy).symm.trans q2
  cases hnamed.symm.trans q3
  have hselP : selectMethod e.platform s.vm cellB.cls mk = .method mk := by rw [Launch.admits_selectMethod X.admits]; exact q4
  obtain ⟨vm₁, X₁, hstep₁⟩ := X.invokevirtual hexec hown hlink hnamed hmethM hstM hkP hkPi hy (a := b) (cell := cellB) hcell
    (fun z h => by rw [h] at hobj; cases hobj) hselP hmethM habM hkP hkPi (g := g) hg (argsL := argsL) (rest := rest) (hlen _ hsigM) hstack hdg
  rcases hK m meth c ⟨T.setVm vm₁, locs, cells, slots⟩ { g with stack := rest } (.invokevirtual index) mk (Value.ref b :: argsL).toArray X₁ hg hsize hdg hW (X₁.named hnamed) (hpre vm₁ X₁.warmed) with ⟨v, B, X', hpost, hsteps⟩ | ⟨q, B, X', hpost, hsteps⟩
  · exact Or.inl ⟨v, vm₁, B, X₁.warmed, X', hpost, fun target h => hstep₁ _ fun acts => by rw [doInvoke_state]; exact hsteps.trans h⟩
  · exact Or.inr ⟨q, vm₁, B, X₁.warmed, X', hpost, hstep₁ _ fun acts => by rw [doInvoke_state]; exact hsteps⟩
theorem vx_callSX (X : Stand p l e R s m args below meth c T locs cells slots) (hexec : p.tables.exec = Jvm.exec) {own : String} {index : Nat} {y : MethodName} {bytes : ByteArray} {maxL : Nat} {ret : Option FieldType} {hh : List (Nat × Nat × Nat × Nat)}
    (hown : s.vm.findClass own = some m.cls) (hlink : (Cond.methodLink own index y).before args s = true) (hstat : (Cond.static y).before args s = true) (hinit : (Cond.initialized y.cls).before args s = true)
    (hcode : (Cond.codeWith y bytes maxL ret hh).before args s = true) (hy : y.cls ≠ "java/lang/invoke/MethodHandle" ∧ y.cls ≠ "java/lang/invoke/VarHandle")
    {W9 : Nat} {Pre : Pt → Array Value → Prop} {Post : Pt → Array Value → Option Value → Pt → Prop} {PostX : Pt → Array Value → Addr → Pt → Prop} (hK : vx_Back l R p e below s args y 3 W9 Pre Post PostX)
    {g : JFrame} (hg : g.method = m) (hsize : g.locals.size = c.maxLocals) {argsL rest : List Value} (hlen : ∀ sig, parseMethodDescriptor y.desc = some sig → argsL.length = sig.parameters.length)
    (hstack : g.stack = argsL.reverse ++ rest) (hW : 2 * g.monitorRoom + (rest.map fun v => v.category).sum ≤ W9) (hdg : decode c.code g.pc = .ok (.invokestatic index, 3))
    (hpre : ∀ vm₁, s.WarmedH vm₁ → Pre ⟨T.setVm vm₁, locs, cells, slots⟩ argsL.toArray) :
    (∃ (v : Option Value) (vm₁ : Vm) (B : Pt), s.WarmedH vm₁ ∧ Stand p l e R s m args below meth c B.U B.locs B.cells B.slots ∧ Post ⟨T.setVm vm₁, locs, cells, slots⟩ argsL.toArray v B ∧
      ∀ target, Steps p.tables e below (B.U.setTop { g with pc := g.pc + 3, stack := v.toList ++ rest }) target → Steps p.tables e below (T.setTop g) target) ∨
    (∃ (q : Addr) (vm₁ : Vm) (B : Pt), s.WarmedH vm₁ ∧ Stand p l e R s m args below meth c B.U B.locs B.cells B.slots ∧ PostX ⟨T.setVm vm₁, locs, cells, slots⟩ argsL.toArray q B ∧
      Steps p.tables e below (T.setTop g) ((B.U.setTop { g with stack := rest }).pushFrame (.throwing q))) := by
  obtain ⟨mk, methM, cM, hnamed, hmethM, -, -, -, -, -, -, hsigM⟩ := Cond.codeWith_spec hcode
  have hstatic : methM.isStatic = true := Cond.static_spec hnamed hmethM hstat
  obtain ⟨kP, hkP, -⟩ := className_of_methodNamed hnamed
  have hinitP : kP.init = .initialized := Cond.initialized_spec (findClass_of_methodNamed hnamed) hkP hinit
  obtain ⟨vm₁, X₁, hstep₁⟩ := X.invokestatic hexec hown hlink hnamed hmethM hstatic hkP hinitP hy (g := g) hg (argsL := argsL) (rest := rest) (hlen _ hsigM) hstack hdg
  rcases hK m meth c ⟨T.setVm vm₁, locs, cells, slots⟩ { g with stack := rest } (.invokestatic index) mk argsL.toArray X₁ hg hsize hdg hW (X₁.named hnamed) (hpre vm₁ X₁.warmed) with ⟨v, B, X', hpost, hsteps⟩ | ⟨q, B, X', hpost, hsteps⟩
  · exact Or.inl ⟨v, vm₁, B, X₁.warmed, X', hpost, fun target h => hstep₁ _ fun acts => by rw [doInvoke_state]; exact hsteps.trans h⟩
  · exact Or.inr ⟨q, vm₁, B, X₁.warmed, X', hpost, hstep₁ _ fun acts => by rw [doInvoke_state]; exact hsteps⟩
theorem vx_callVW (X : Stand p l e R s m args below meth c T locs cells slots) (hexec : p.tables.exec = Jvm.exec) {own C : String} {index : Nat} {y : MethodName} {bytes : ByteArray} {maxL : Nat} {ret : Option FieldType} {hh : List (Nat × Nat × Nat × Nat)}
    (hown : s.vm.findClass own = some m.cls) (hlink : (Cond.methodLink own index y).before args s = true) (hinst : (Cond.instanceMethod y).before args s = true) (hsel : (Cond.selects C y y).before args s = true)
    (hcode : (Cond.codeWith y bytes maxL ret hh).before args s = true) (hy : y.cls ≠ "java/lang/invoke/MethodHandle" ∧ y.cls ≠ "java/lang/invoke/VarHandle")
    {W9 : Nat} {Pre : Pt → Array Value → Prop} {Post : Pt → Array Value → Option Value → Pt → Prop} (hK : Back l R p e below s args y 3 W9 Pre Post)
    {b : Addr} {cellB : Cell} (hcell : T.heap[b]? = some cellB) (hobj : cellB.vm.isStatics = false) (hcls : s.vm.findClass C = some cellB.cls)
    {g : JFrame} (hg : g.method = m) (hsize : g.locals.size = c.maxLocals) {argsL rest : List Value} (hlen : ∀ sig, parseMethodDescriptor y.desc = some sig → argsL.length = sig.parameters.length)
    (hstack : g.stack = argsL.reverse ++ .ref b :: rest) (hW : 2 * g.monitorRoom + (rest.map fun v => v.category).sum ≤ W9) (hdg : decode c.code g.pc = .ok (.invokevirtual index, 3))
    (hpre : ∀ vm₁, s.WarmedH vm₁ → Pre ⟨T.setVm vm₁, locs, cells, slots⟩ (Value.ref b :: argsL).toArray) :
    ∃ (v : Option Value) (vm₁ : Vm) (B : Pt), s.WarmedH vm₁ ∧ Stand p l e R s m args below meth c B.U B.locs B.cells B.slots ∧ Post ⟨T.setVm vm₁, locs, cells, slots⟩ (Value.ref b :: argsL).toArray v B ∧
      ∀ target, Steps p.tables e below (B.U.setTop { g with pc := g.pc + 3, stack := v.toList ++ rest }) target → Steps p.tables e below (T.setTop g) target := by
  obtain ⟨mk, methM, hnamed, hmethM, hstM, habM⟩ := Cond.instanceMethod_spec hinst
  obtain ⟨m8, methM', cM, hn8, hmethM', -, -, -, -, -, -, hsigM⟩ := Cond.codeWith_spec hcode
  cases Option.some.inj (hn8.symm.trans hnamed)
  cases hmethM.symm.trans hmethM'
  obtain ⟨c2, r2, m2, q1, q2, q3, q4, kP, hkP, hkPi⟩ := Cond.selects_spec hsel
  cases hcls.symm.trans q1
  cases (State.methodFound?_of_named hnamed hy).symm.trans q2
  cases hnamed.symm.trans q3
  have hselP : selectMethod e.platform s.vm cellB.cls mk = .method mk := by rw [Launch.admits_selectMethod X.admits]; exact q4
  obtain ⟨vm₁, X₁, hstep₁⟩ := X.invokevirtual hexec hown hlink hnamed hmethM hstM hkP hkPi hy (a := b) (cell := cellB) hcell
    (fun z h => by rw [h] at hobj; cases hobj) hselP hmethM habM hkP hkPi (g := g) hg (argsL := argsL) (rest := rest) (hlen _ hsigM) hstack hdg
  obtain ⟨v, B, X', hpost, hsteps⟩ := hK m meth c ⟨T.setVm vm₁, locs, cells, slots⟩ { g with stack := rest } (.invokevirtual index) mk (Value.ref b :: argsL).toArray X₁ hg hsize hdg hW (X₁.named hnamed) (hpre vm₁ X₁.warmed)
  exact ⟨v, vm₁, B, X₁.warmed, X', hpost, fun target h => hstep₁ _ fun acts => by rw [doInvoke_state]; exact hsteps.trans h⟩
abbrev vx_CVW (R : Room) (s : State) (args : Array Value) (own C : String) (index : Nat) (y : MethodName) (bytes : ByteArray) (maxL : Nat) (ret : Option FieldType) (hh : List (Nat × Nat × Nat × Nat)) (ws : List Cond) (rm : Room) (mc ms n : Nat) : Prop :=
  (rm.cells = mc ∧ rm.slots = ms ∧ rm.frames + 1 ≤ R.frames ∧ 8 + (maxL + 11) + rm.locals ≤ R.locals ∧ (∀ w ∈ ws, ∀ (a' : Array Value) (U : State), s.WarmedH U.vm → w.before a' U = true) ∧ Cond.codeWith y bytes maxL ret hh ∈ ws) ∧
  (Cond.codeWith y bytes maxL ret hh).before args s = true ∧ (Cond.initialized y.cls).before args s = true ∧ (y.cls ≠ "java/lang/invoke/MethodHandle" ∧ y.cls ≠ "java/lang/invoke/VarHandle") ∧
  (∀ sig, parseMethodDescriptor y.desc = some sig → n = sig.parameters.length) ∧ (Cond.methodLink own index y).before args s = true ∧ (Cond.instanceMethod y).before args s = true ∧ (Cond.selects C y y).before args s = true
theorem vx_cwVW {own C : String} {index maxL mc ms : Nat} {y : MethodName} {bytes : ByteArray} {ret : Option FieldType} {hh : List (Nat × Nat × Nat × Nat)} {Ts ws ws' : List Cond} {rm : Room} (n : Nat) (ht : ∀ w ∈ Ts, w.before args s = true) (hT : GoodIn Ts (wsV own index C y ws)) (hw : ws = Cond.codeWith y bytes maxL ret hh :: ws') (hrc : rm.cells = mc) (hrs : rm.slots = ms)
    (hd : y.cls = C ∧ y.cls ≠ "java/lang/invoke/MethodHandle" ∧ y.cls ≠ "java/lang/invoke/VarHandle" ∧ (parseMethodDescriptor y.desc).map (fun d => d.parameters.length) = some n) (hR : rm.frames + 1 ≤ R.frames ∧ 8 + (maxL + 11) + rm.locals ≤ R.locals) :
    vx_CVW R s args own C index y bytes maxL ret hh ws rm mc ms n := by
  obtain ⟨hC, hd⟩ := hd
  subst hC
  have ok : ∀ w ∈ wsV own index y.cls y ws, w.before args s = true := fun w h => ht w (hT w h).1
  have hG : GoodIn Ts ws := fun w h => hT w (by unfold wsV; exact List.mem_append_right _ h)
  have hc : Cond.codeWith y bytes maxL ret hh ∈ ws := by rw [hw]; exact List.mem_cons_self
  refine ⟨⟨hrc, hrs, hR.1, hR.2, pay_in ht hG, hc⟩, ht _ (hG _ hc).1, ok _ (by simp [wsV]), ⟨hd.1, hd.2.1⟩, fun sig h => ?_, ok _ (by simp [wsV]), ok _ (by simp [wsV]), ok _ (by simp [wsV])⟩
  have h2 := hd.2.2
  rw [h] at h2
  exact (Option.some.inj h2).symm
theorem vx_runVW {y : MethodName} {bytes cc : ByteArray} {maxL nL mc ms n index : Nat} {ret : Option FieldType} {hh : List (Nat × Nat × Nat × Nat)} {ws : List Cond} {rm : Room} {Pc : Array Value → State → Prop} {Qc : Array Value → State → Outcome → State → Prop} {free : Addr → Prop} {Ts : List Cond} {own C : String} {b : Addr} {As rest : List Value} {g : JFrame}
    (S : CallFix p m c cc nL s args Ts own) (hM : Met l y ws rm Pc Qc mc ms free) (cw : vx_CVW R s args own C index y bytes maxL ret hh ws rm mc ms n) (hp : PreV s H C b Pc As)
    (hg : g.method = m) (hn : As.length = n) (hsize : g.locals.size = nL) (hstack : g.stack = As.reverse ++ .ref b :: rest) (hW : 2 * g.monitorRoom + (rest.map fun v => v.category).sum ≤ 8) (hdg : decode cc g.pc = .ok (.invokevirtual index, 3)) (hf : cells + mc ≤ R.cells ∧ slots + ms ≤ R.slots) :
    va_Run p l e R s m args below meth c H locs cells slots mc ms g rest (Qc (Value.ref b :: As).toArray) free := by
  obtain ⟨⟨hrc, hrs, hfr, hlo, hws, hcw⟩, hcode, hini, hy, hlen, hl, hin, hse⟩ := cw
  have hK : Back l R p e below s args y 3 8 (PreOf R mc ms Pc) (PostOf Qc mc ms free) := va_backW (hh := hh) (bytes := bytes) (maxL := maxL) (ret := ret) hM hp.1 hrc hrs hfr hlo hws hcw (fun a' U hW => word_at hW (Or.inl (by first | rfl | simp [Cond.onTables, Cond.keeps, Cond.steady])) hini)
  obtain ⟨hx, hb, hml, ho, -⟩ := S
  obtain ⟨-, ⟨cellB, hcB, hoB, hclB⟩, hPc⟩ := hp
  intro T hT X
  obtain ⟨v, vm₁, ⟨U', l2, c2, s2⟩, hW₁, X', ⟨g', mk, t, L, e1, e2, hq, h1, hL, h2, h3⟩, st⟩ := vx_callVW X hx (C := C) (hh := hh) (bytes := bytes) (maxL := maxL) (ret := ret) ho hl hin hse hcode hy hK (by rw [hT]; exact hcB) hoB hclB hg (hsize.trans hml.symm) (argsL := As) (rest := rest) (fun sig h => hn.trans (hlen sig h)) hstack hW (by rw [hb]; exact hdg)
    (fun vm₁ hW₁ => ⟨hf.1, hf.2, hPc (T.setVm vm₁) hT hW₁⟩)
  dsimp only [Pt.U, Pt.locs, Pt.cells, Pt.slots] at X' e1 e2 h1 h2 h3 st
  subst h1; subst h2; subst h3
  exact ⟨v, (T.setVm vm₁).calling g' mk (Value.ref b :: As).toArray, t, U', L, hT, X', hL, e1, e2, hq, st⟩
section
variable {y : MethodName} {bytes cc : ByteArray} {maxL nL mc ms n index : Nat} {ret : Option FieldType} {ws : List Cond} {rm : Room} {Pc : Array Value → State → Prop} {Qc : Array Value → State → Outcome → State → Prop} {XC : String → State → State → Prop} {free : Addr → Prop} {Ts : List Cond} {own C : String} {b : Addr} {As rest : List Value} {g : JFrame}
theorem vx_runVX {hh : List (Nat × Nat × Nat × Nat)} (S : CallFix p m c cc nL s args Ts own) (hM : vx_Met l y ws rm Pc Qc XC mc ms free) (cw : vx_CVW R s args own C index y bytes maxL ret hh ws rm mc ms n) (hp : PreV s H C b Pc As)
    (hg : g.method = m) (hn : As.length = n) (hsize : g.locals.size = nL) (hstack : g.stack = As.reverse ++ .ref b :: rest) (hW : 2 * g.monitorRoom + (rest.map fun v => v.category).sum ≤ 8) (hdg : decode cc g.pc = .ok (.invokevirtual index, 3)) (hf : cells + mc ≤ R.cells ∧ slots + ms ≤ R.slots) :
    vx_Run p l e R s m args below meth c H locs cells slots mc ms g rest (Qc (Value.ref b :: As).toArray) XC free := by
  obtain ⟨⟨hrc, hrs, hfr, hlo, hws, hcw⟩, hcode, hini, hy, hlen, hl, hin, hse⟩ := cw
  have hK : vx_Back l R p e below s args y 3 8 (PreOf R mc ms Pc) (PostOf Qc mc ms free) (vx_Post XC mc ms free) := vx_backW (hh := hh) (bytes := bytes) (maxL := maxL) (ret := ret) hM hp.1 hrc hrs hfr hlo hws hcw (fun a' U hW => word_at hW (Or.inl (by first | rfl | simp [Cond.onTables, Cond.keeps, Cond.steady])) hini)
  obtain ⟨hx, hb, hml, ho, -⟩ := S
  obtain ⟨-, ⟨cellB, hcB, hoB, hclB⟩, hPc⟩ := hp
  intro T hT X
  rcases vx_callVX X hx (C := C) (hh := hh) (bytes := bytes) (maxL := maxL) (ret := ret) ho hl hin hse hcode hy hK (by rw [hT]; exact hcB) hoB hclB hg (hsize.trans hml.symm) (argsL := As) (rest := rest) (fun sig h => hn.trans (hlen sig h)) hstack hW (by rw [hb]; exact hdg)
    (fun vm₁ hW₁ => ⟨hf.1, hf.2, hPc (T.setVm vm₁) hT hW₁⟩) with ⟨v, vm₁, ⟨U', l2, c2, s2⟩, hW₁, X', ⟨g', mk, t, L, e1, e2, hq, h1, hL, h2, h3⟩, st⟩ | ⟨q, vm₁, ⟨U', l2, c2, s2⟩, hW₁, X', ⟨g', mk, t, L, E, ce, e1, e2, hq, hce, hcv, hcl, h1, hL, h2, h3⟩, st⟩
  · dsimp only [Pt.U, Pt.locs, Pt.cells, Pt.slots] at X' e1 e2 h1 h2 h3 st
    subst h1; subst h2; subst h3
    exact Or.inl ⟨v, (T.setVm vm₁).calling g' mk (Value.ref b :: As).toArray, t, U', L, hT, X', hL, e1, e2, hq, st⟩
  · dsimp only [Pt.U, Pt.locs, Pt.cells, Pt.slots] at X' e1 e2 h1 h2 h3 st hcl
    subst h1; subst h2; subst h3
    exact Or.inr ⟨q, (T.setVm vm₁).calling g' mk (Value.ref b :: As).toArray, t, U', L, E, ce, hT, X', hL, e1, e2, hq, hce, hcv, vx_cls hW₁ hcl, st⟩
theorem vx_runSX {hh : List (Nat × Nat × Nat × Nat)} (S : CallFix p m c cc nL s args Ts own) (hM : vx_Met l y ws rm Pc Qc XC mc ms free) (cw : vx_CSW R s args own index y bytes maxL ret hh ws rm mc ms n) (hp : PreS s H Pc As)
    (hg : g.method = m) (hn : As.length = n) (hsize : g.locals.size = nL) (hstack : g.stack = As.reverse ++ rest) (hW : 2 * g.monitorRoom + (rest.map fun v => v.category).sum ≤ 8) (hdg : decode cc g.pc = .ok (.invokestatic index, 3)) (hf : cells + mc ≤ R.cells ∧ slots + ms ≤ R.slots) :
    vx_Run p l e R s m args below meth c H locs cells slots mc ms g rest (Qc As.toArray) XC free := by
  obtain ⟨⟨hrc, hrs, hfr, hlo, hws, hcw⟩, hcode, hini, hy, hlen, hl, hstt⟩ := cw
  have hK : vx_Back l R p e below s args y 3 8 (PreOf R mc ms Pc) (PostOf Qc mc ms free) (vx_Post XC mc ms free) := vx_backW (hh := hh) (bytes := bytes) (maxL := maxL) (ret := ret) hM hp.1 hrc hrs hfr hlo hws hcw (fun a' U hW => word_at hW (Or.inl (by first | rfl | simp [Cond.onTables, Cond.keeps, Cond.steady])) hini)
  obtain ⟨hx, hb, hml, ho, -⟩ := S
  intro T hT X
  rcases vx_callSX X hx (hh := hh) (bytes := bytes) (maxL := maxL) (ret := ret) ho hl hstt hini hcode hy hK hg (hsize.trans hml.symm) (argsL := As) (rest := rest) (fun sig h => hn.trans (hlen sig h)) hstack hW (by rw [hb]; exact hdg)
    (fun vm₁ hW₁ => ⟨hf.1, hf.2, hp.2 (T.setVm vm₁) hT hW₁⟩) with ⟨v, vm₁, ⟨U', l2, c2, s2⟩, hW₁, X', ⟨g', mk, t, L, e1, e2, hq, h1, hL, h2, h3⟩, st⟩ | ⟨q, vm₁, ⟨U', l2, c2, s2⟩, hW₁, X', ⟨g', mk, t, L, E, ce, e1, e2, hq, hce, hcv, hcl, h1, hL, h2, h3⟩, st⟩
  · dsimp only [Pt.U, Pt.locs, Pt.cells, Pt.slots] at X' e1 e2 h1 h2 h3 st
    subst h1; subst h2; subst h3
    exact Or.inl ⟨v, (T.setVm vm₁).calling g' mk As.toArray, t, U', L, hT, X', hL, e1, e2, hq, st⟩
  · dsimp only [Pt.U, Pt.locs, Pt.cells, Pt.slots] at X' e1 e2 h1 h2 h3 st hcl
    subst h1; subst h2; subst h3
    exact Or.inr ⟨q, (T.setVm vm₁).calling g' mk As.toArray, t, U', L, E, ce, hT, X', hL, e1, e2, hq, hce, hcv, vx_cls hW₁ hcl, st⟩
end
end VXH
theorem vx_ofWH {l : Launch} {y : MethodName} {ws ws' : List Cond} {rm : Room} {Pc : Array Value → State → Prop} {Qc : Array Value → State → Outcome → State → Prop} {XC : String → State → State → Prop} {mc ms : Nat} {free : Addr → Prop} {cc : ByteArray} {maxL : Nat} {ret : Option FieldType} {hh : List (Nat × Nat × Nat × Nat)}
    (hy : plainName y.cls = true) (hw : ws = Cond.codeWith y cc maxL ret hh :: ws')
    (body : ∀ p e s m args below meth c s₁, BodyLoose p l y (headSpec ws rm) cc maxL ret e s m args below meth c s₁ → c.maxLocals = maxL → Pc args s →
      W p l e (headSpec ws rm).room s m args below meth c s.heap [] 0 0 (vx_MQ below Qc XC args s mc ms free) (entryFrame m args maxL)) : vx_Met l y ws rm Pc Qc XC mc ms free := by
  refine MetFree.of_bodyS (code := cc) (maxLocals := maxL) (ret := ret) hy ?_ ?_
  · intro args s m h hn
    obtain ⟨m9, meth, c, hn9, h1, h2, h3, h4, -, h5, h6, -⟩ := Cond.codeWith_spec (atoms_spec (ws := ws) h _ (by rw [hw]; exact List.mem_cons_self))
    cases hn.symm.trans hn9
    exact ⟨meth, c, h1, h2, h3, h4, h5, h6⟩
  · intro p e s m args below meth c s₁ B hml hP _
    have hh0 : s₁.heap = s.heap := by rw [B.state]; rfl
    obtain ⟨t, a1, o, b1, b2, b3⟩ := body p e s m args below meth c s₁ B hml hP s₁ hh0 (Stand.of_body B)
    exact ⟨t, o, a1, b1, b2, b3⟩
end
section
def lw_okq (q : MethodName × Nat) : Prop := (q.1.cls ≠ "java/lang/invoke/MethodHandle" ∧ q.1.cls ≠ "java/lang/invoke/VarHandle") ∧ Cond.instantiable q.1.cls q.2 ∈ tables_1 ∧ Cond.privateMethod q.1 ∈ tables_1 ∧ Cond.instanceMethod q.1 ∈ tables_1
theorem lw_p0 : lw_okq (⟨"CounterPlacer", "routineAt", "(I)LCounterPlacer$Routine;"⟩, 4) := ⟨⟨by decide +kernel, by decide +kernel⟩, List.mem_of_getElem? (i := 18) (by decide +kernel), List.mem_of_getElem? (i := 374) (by decide +kernel), List.mem_of_getElem? (i := 375) (by decide +kernel)⟩
theorem lw_p1 : lw_okq (⟨"CounterPlacer$Shape", "outsFitKinds", "()Z"⟩, 13) := ⟨⟨by decide +kernel, by decide +kernel⟩, List.mem_of_getElem? (i := 105) (by decide +kernel), List.mem_of_getElem? (i := 422) (by decide +kernel), List.mem_of_getElem? (i := 423) (by decide +kernel)⟩
theorem lw_p2 : lw_okq (⟨"CounterPlacer$Shape", "allReached", "()Z"⟩, 13) := ⟨⟨by decide +kernel, by decide +kernel⟩, List.mem_of_getElem? (i := 105) (by decide +kernel), List.mem_of_getElem? (i := 426) (by decide +kernel), List.mem_of_getElem? (i := 427) (by decide +kernel)⟩
theorem lw_p3 : lw_okq (⟨"CounterPlacer$Shape", "marksSpread", "([I[I)Z"⟩, 13) := ⟨⟨by decide +kernel, by decide +kernel⟩, List.mem_of_getElem? (i := 105) (by decide +kernel), List.mem_of_getElem? (i := 430) (by decide +kernel), List.mem_of_getElem? (i := 431) (by decide +kernel)⟩
theorem lw_p4 : lw_okq (⟨"CounterPlacer$Shape", "allCanEnd", "()Z"⟩, 13) := ⟨⟨by decide +kernel, by decide +kernel⟩, List.mem_of_getElem? (i := 105) (by decide +kernel), List.mem_of_getElem? (i := 434) (by decide +kernel), List.mem_of_getElem? (i := 435) (by decide +kernel)⟩
theorem lw_p5 : lw_okq (⟨"CounterPlacer$Ways", "countFromBlocks", "()Z"⟩, 11) := ⟨⟨by decide +kernel, by decide +kernel⟩, List.mem_of_getElem? (i := 180) (by decide +kernel), List.mem_of_getElem? (i := 442) (by decide +kernel), List.mem_of_getElem? (i := 443) (by decide +kernel)⟩
theorem lw_p6 : lw_okq (⟨"CounterPlacer$Ways", "countFrom", "(I)J"⟩, 11) := ⟨⟨by decide +kernel, by decide +kernel⟩, List.mem_of_getElem? (i := 180) (by decide +kernel), List.mem_of_getElem? (i := 446) (by decide +kernel), List.mem_of_getElem? (i := 447) (by decide +kernel)⟩
theorem lw_p7 : lw_okq (⟨"CounterPlacer$Ways", "countBeyond", "(I)J"⟩, 11) := ⟨⟨by decide +kernel, by decide +kernel⟩, List.mem_of_getElem? (i := 180) (by decide +kernel), List.mem_of_getElem? (i := 451) (by decide +kernel), List.mem_of_getElem? (i := 452) (by decide +kernel)⟩
theorem lw_p8 : lw_okq (⟨"CounterPlacer$Ways", "sumAdds", "()V"⟩, 11) := ⟨⟨by decide +kernel, by decide +kernel⟩, List.mem_of_getElem? (i := 180) (by decide +kernel), List.mem_of_getElem? (i := 455) (by decide +kernel), List.mem_of_getElem? (i := 456) (by decide +kernel)⟩
theorem lw_p9 : lw_okq (⟨"CounterPlacer$Ways", "setBases", "()V"⟩, 11) := ⟨⟨by decide +kernel, by decide +kernel⟩, List.mem_of_getElem? (i := 180) (by decide +kernel), List.mem_of_getElem? (i := 459) (by decide +kernel), List.mem_of_getElem? (i := 460) (by decide +kernel)⟩
theorem lw_p10 : lw_okq (⟨"CounterPlacer$Shape", "addLink", "(II)V"⟩, 13) := ⟨⟨by decide +kernel, by decide +kernel⟩, List.mem_of_getElem? (i := 105) (by decide +kernel), List.mem_of_getElem? (i := 469) (by decide +kernel), List.mem_of_getElem? (i := 470) (by decide +kernel)⟩
theorem lw_p11 : lw_okq (⟨"CounterPlacer$Tree", "sortByGuess", "()V"⟩, 12) := ⟨⟨by decide +kernel, by decide +kernel⟩, List.mem_of_getElem? (i := 228) (by decide +kernel), List.mem_of_getElem? (i := 481) (by decide +kernel), List.mem_of_getElem? (i := 482) (by decide +kernel)⟩
theorem lw_p12 : lw_okq (⟨"CounterPlacer$Tree", "takeLinks", "()V"⟩, 12) := ⟨⟨by decide +kernel, by decide +kernel⟩, List.mem_of_getElem? (i := 228) (by decide +kernel), List.mem_of_getElem? (i := 485) (by decide +kernel), List.mem_of_getElem? (i := 486) (by decide +kernel)⟩
theorem lw_p13 : lw_okq (⟨"CounterPlacer$Tree", "joinParts", "(I)Z"⟩, 12) := ⟨⟨by decide +kernel, by decide +kernel⟩, List.mem_of_getElem? (i := 228) (by decide +kernel), List.mem_of_getElem? (i := 489) (by decide +kernel), List.mem_of_getElem? (i := 490) (by decide +kernel)⟩
theorem lw_p14 : lw_okq (⟨"CounterPlacer$Tree", "lineUpFromEnd", "()V"⟩, 12) := ⟨⟨by decide +kernel, by decide +kernel⟩, List.mem_of_getElem? (i := 228) (by decide +kernel), List.mem_of_getElem? (i := 493) (by decide +kernel), List.mem_of_getElem? (i := 494) (by decide +kernel)⟩
theorem lw_p15 : lw_okq (⟨"CounterPlacer$Tree", "lineUp", "(II)V"⟩, 12) := ⟨⟨by decide +kernel, by decide +kernel⟩, List.mem_of_getElem? (i := 228) (by decide +kernel), List.mem_of_getElem? (i := 497) (by decide +kernel), List.mem_of_getElem? (i := 498) (by decide +kernel)⟩
def lw_privs_1 : List (MethodName × Nat) := [(⟨"CounterPlacer", "routineAt", "(I)LCounterPlacer$Routine;"⟩, 4), (⟨"CounterPlacer$Shape", "outsFitKinds", "()Z"⟩, 13), (⟨"CounterPlacer$Shape", "allReached", "()Z"⟩, 13), (⟨"CounterPlacer$Shape", "marksSpread", "([I[I)Z"⟩, 13), (⟨"CounterPlacer$Shape", "allCanEnd", "()Z"⟩, 13), (⟨"CounterPlacer$Ways", "countFromBlocks", "()Z"⟩, 11), (⟨"CounterPlacer$Ways", "countFrom", "(I)J"⟩, 11), (⟨"CounterPlacer$Ways", "countBeyond", "(I)J"⟩, 11), (⟨"CounterPlacer$Ways", "sumAdds", "()V"⟩, 11), (⟨"CounterPlacer$Ways", "setBases", "()V"⟩, 11), (⟨"CounterPlacer$Shape", "addLink", "(II)V"⟩, 13), (⟨"CounterPlacer$Tree", "sortByGuess", "()V"⟩, 12), (⟨"CounterPlacer$Tree", "takeLinks", "()V"⟩, 12), (⟨"CounterPlacer$Tree", "joinParts", "(I)Z"⟩, 12), (⟨"CounterPlacer$Tree", "lineUpFromEnd", "()V"⟩, 12), (⟨"CounterPlacer$Tree", "lineUp", "(II)V"⟩, 12)]
theorem lw_r1 : ∀ q ∈ lw_privs_1, lw_okq q := List.forall_mem_cons.mpr ⟨lw_p0, List.forall_mem_cons.mpr ⟨lw_p1, List.forall_mem_cons.mpr ⟨lw_p2, List.forall_mem_cons.mpr ⟨lw_p3, List.forall_mem_cons.mpr ⟨lw_p4, List.forall_mem_cons.mpr ⟨lw_p5, List.forall_mem_cons.mpr ⟨lw_p6, List.forall_mem_cons.mpr ⟨lw_p7, List.forall_mem_cons.mpr ⟨lw_p8, List.forall_mem_cons.mpr ⟨lw_p9, List.forall_mem_cons.mpr ⟨lw_p10, List.forall_mem_cons.mpr ⟨lw_p11, List.forall_mem_cons.mpr ⟨lw_p12, List.forall_mem_cons.mpr ⟨lw_p13, List.forall_mem_cons.mpr ⟨lw_p14, List.forall_mem_cons.mpr ⟨lw_p15, fun _ h => absurd h List.not_mem_nil⟩⟩⟩⟩⟩⟩⟩⟩⟩⟩⟩⟩⟩⟩⟩⟩
theorem lw_p16 : lw_okq (⟨"CounterPlacer$Tree", "otherEnd", "(II)I"⟩, 12) := ⟨⟨by decide +kernel, by decide +kernel⟩, List.mem_of_getElem? (i := 228) (by decide +kernel), List.mem_of_getElem? (i := 501) (by decide +kernel), List.mem_of_getElem? (i := 502) (by decide +kernel)⟩
theorem lw_p17 : lw_okq (⟨"CounterPlacer$Ways", "joinTrees", "(I)V"⟩, 11) := ⟨⟨by decide +kernel, by decide +kernel⟩, List.mem_of_getElem? (i := 180) (by decide +kernel), List.mem_of_getElem? (i := 509) (by decide +kernel), List.mem_of_getElem? (i := 510) (by decide +kernel)⟩
theorem lw_p18 : lw_okq (⟨"CounterPlacer", "finishedAt", "(I)LCounterPlacer$Routine;"⟩, 4) := ⟨⟨by decide +kernel, by decide +kernel⟩, List.mem_of_getElem? (i := 18) (by decide +kernel), List.mem_of_getElem? (i := 528) (by decide +kernel), List.mem_of_getElem? (i := 529) (by decide +kernel)⟩
theorem lw_p19 : lw_okq (⟨"CounterPlacer$Walk", "isOf", "(II)Z"⟩, 9) := ⟨⟨by decide +kernel, by decide +kernel⟩, List.mem_of_getElem? (i := 28) (by decide +kernel), List.mem_of_getElem? (i := 536) (by decide +kernel), List.mem_of_getElem? (i := 537) (by decide +kernel)⟩
theorem lw_p20 : lw_okq (⟨"CounterPlacer", "finishedWithEdge", "(II)LCounterPlacer$Routine;"⟩, 4) := ⟨⟨by decide +kernel, by decide +kernel⟩, List.mem_of_getElem? (i := 18) (by decide +kernel), List.mem_of_getElem? (i := 545) (by decide +kernel), List.mem_of_getElem? (i := 546) (by decide +kernel)⟩
theorem lw_p21 : lw_okq (⟨"CounterPlacer$Tree", "carry", "(IJ)V"⟩, 12) := ⟨⟨by decide +kernel, by decide +kernel⟩, List.mem_of_getElem? (i := 228) (by decide +kernel), List.mem_of_getElem? (i := 562) (by decide +kernel), List.mem_of_getElem? (i := 563) (by decide +kernel)⟩
theorem lw_p22 : lw_okq (⟨"CounterPlacer$Tree", "isBelow", "(II)Z"⟩, 12) := ⟨⟨by decide +kernel, by decide +kernel⟩, List.mem_of_getElem? (i := 228) (by decide +kernel), List.mem_of_getElem? (i := 579) (by decide +kernel), List.mem_of_getElem? (i := 580) (by decide +kernel)⟩
theorem lw_p23 : lw_okq (⟨"CounterPlacer$Walk", "dropFrames", "()V"⟩, 9) := ⟨⟨by decide +kernel, by decide +kernel⟩, List.mem_of_getElem? (i := 28) (by decide +kernel), List.mem_of_getElem? (i := 591) (by decide +kernel), List.mem_of_getElem? (i := 592) (by decide +kernel)⟩
theorem lw_p24 : lw_okq (⟨"CounterPlacer$Walk", "enter", "(LCounterPlacer$Routine;)V"⟩, 9) := ⟨⟨by decide +kernel, by decide +kernel⟩, List.mem_of_getElem? (i := 28) (by decide +kernel), List.mem_of_getElem? (i := 599) (by decide +kernel), List.mem_of_getElem? (i := 600) (by decide +kernel)⟩
theorem lw_p25 : lw_okq (⟨"CounterPlacer$Walk", "step", "([LCounterPlacer$Routine;)V"⟩, 9) := ⟨⟨by decide +kernel, by decide +kernel⟩, List.mem_of_getElem? (i := 28) (by decide +kernel), List.mem_of_getElem? (i := 615) (by decide +kernel), List.mem_of_getElem? (i := 616) (by decide +kernel)⟩
theorem lw_p26 : lw_okq (⟨"CounterPlacer$Walk", "topRoutine", "()LCounterPlacer$Routine;"⟩, 9) := ⟨⟨by decide +kernel, by decide +kernel⟩, List.mem_of_getElem? (i := 28) (by decide +kernel), List.mem_of_getElem? (i := 619) (by decide +kernel), List.mem_of_getElem? (i := 620) (by decide +kernel)⟩
theorem lw_p27 : lw_okq (⟨"CounterPlacer$Walk", "cross", "(LCounterPlacer$Routine;I)V"⟩, 9) := ⟨⟨by decide +kernel, by decide +kernel⟩, List.mem_of_getElem? (i := 28) (by decide +kernel), List.mem_of_getElem? (i := 627) (by decide +kernel), List.mem_of_getElem? (i := 628) (by decide +kernel)⟩
theorem lw_p28 : lw_okq (⟨"CounterPlacer$Walk", "choose", "(I)I"⟩, 9) := ⟨⟨by decide +kernel, by decide +kernel⟩, List.mem_of_getElem? (i := 28) (by decide +kernel), List.mem_of_getElem? (i := 639) (by decide +kernel), List.mem_of_getElem? (i := 640) (by decide +kernel)⟩
theorem lw_p29 : lw_okq (⟨"CounterPlacer$Walk", "enterCalled", "(I[LCounterPlacer$Routine;)V"⟩, 9) := ⟨⟨by decide +kernel, by decide +kernel⟩, List.mem_of_getElem? (i := 28) (by decide +kernel), List.mem_of_getElem? (i := 643) (by decide +kernel), List.mem_of_getElem? (i := 644) (by decide +kernel)⟩
theorem lw_p30 : lw_okq (⟨"CounterPlacer$Walk", "leave", "(LCounterPlacer$Routine;)V"⟩, 9) := ⟨⟨by decide +kernel, by decide +kernel⟩, List.mem_of_getElem? (i := 28) (by decide +kernel), List.mem_of_getElem? (i := 647) (by decide +kernel), List.mem_of_getElem? (i := 648) (by decide +kernel)⟩
theorem lw_p31 : lw_okq (⟨"CounterPlacer$Ways", "beginningOf", "(J)I"⟩, 11) := ⟨⟨by decide +kernel, by decide +kernel⟩, List.mem_of_getElem? (i := 180) (by decide +kernel), List.mem_of_getElem? (i := 667) (by decide +kernel), List.mem_of_getElem? (i := 668) (by decide +kernel)⟩
def lw_privs_2 : List (MethodName × Nat) := [(⟨"CounterPlacer$Tree", "otherEnd", "(II)I"⟩, 12), (⟨"CounterPlacer$Ways", "joinTrees", "(I)V"⟩, 11), (⟨"CounterPlacer", "finishedAt", "(I)LCounterPlacer$Routine;"⟩, 4), (⟨"CounterPlacer$Walk", "isOf", "(II)Z"⟩, 9), (⟨"CounterPlacer", "finishedWithEdge", "(II)LCounterPlacer$Routine;"⟩, 4), (⟨"CounterPlacer$Tree", "carry", "(IJ)V"⟩, 12), (⟨"CounterPlacer$Tree", "isBelow", "(II)Z"⟩, 12), (⟨"CounterPlacer$Walk", "dropFrames", "()V"⟩, 9), (⟨"CounterPlacer$Walk", "enter", "(LCounterPlacer$Routine;)V"⟩, 9), (⟨"CounterPlacer$Walk", "step", "([LCounterPlacer$Routine;)V"⟩, 9), (⟨"CounterPlacer$Walk", "topRoutine", "()LCounterPlacer$Routine;"⟩, 9), (⟨"CounterPlacer$Walk", "cross", "(LCounterPlacer$Routine;I)V"⟩, 9), (⟨"CounterPlacer$Walk", "choose", "(I)I"⟩, 9), (⟨"CounterPlacer$Walk", "enterCalled", "(I[LCounterPlacer$Routine;)V"⟩, 9), (⟨"CounterPlacer$Walk", "leave", "(LCounterPlacer$Routine;)V"⟩, 9), (⟨"CounterPlacer$Ways", "beginningOf", "(J)I"⟩, 11)]
theorem lw_r2 : ∀ q ∈ lw_privs_2, lw_okq q := List.forall_mem_cons.mpr ⟨lw_p16, List.forall_mem_cons.mpr ⟨lw_p17, List.forall_mem_cons.mpr ⟨lw_p18, List.forall_mem_cons.mpr ⟨lw_p19, List.forall_mem_cons.mpr ⟨lw_p20, List.forall_mem_cons.mpr ⟨lw_p21, List.forall_mem_cons.mpr ⟨lw_p22, List.forall_mem_cons.mpr ⟨lw_p23, List.forall_mem_cons.mpr ⟨lw_p24, List.forall_mem_cons.mpr ⟨lw_p25, List.forall_mem_cons.mpr ⟨lw_p26, List.forall_mem_cons.mpr ⟨lw_p27, List.forall_mem_cons.mpr ⟨lw_p28, List.forall_mem_cons.mpr ⟨lw_p29, List.forall_mem_cons.mpr ⟨lw_p30, List.forall_mem_cons.mpr ⟨lw_p31, fun _ h => absurd h List.not_mem_nil⟩⟩⟩⟩⟩⟩⟩⟩⟩⟩⟩⟩⟩⟩⟩⟩
theorem lw_p32 : lw_okq (⟨"CounterPlacer$Ways", "edgeFor", "(IJ)I"⟩, 11) := ⟨⟨by decide +kernel, by decide +kernel⟩, List.mem_of_getElem? (i := 180) (by decide +kernel), List.mem_of_getElem? (i := 671) (by decide +kernel), List.mem_of_getElem? (i := 672) (by decide +kernel)⟩
theorem lw_p33 : lw_okq (⟨"CounterPlacer$Mender", "takeCounts", "(LCounterPlacer$Shape;[I)V"⟩, 4) := ⟨⟨by decide +kernel, by decide +kernel⟩, List.mem_of_getElem? (i := 66) (by decide +kernel), List.mem_of_getElem? (i := 721) (by decide +kernel), List.mem_of_getElem? (i := 722) (by decide +kernel)⟩
theorem lw_p34 : lw_okq (⟨"CounterPlacer$Mender", "measure", "(LCounterPlacer$Shape;[I)V"⟩, 4) := ⟨⟨by decide +kernel, by decide +kernel⟩, List.mem_of_getElem? (i := 66) (by decide +kernel), List.mem_of_getElem? (i := 726) (by decide +kernel), List.mem_of_getElem? (i := 727) (by decide +kernel)⟩
theorem lw_p35 : lw_okq (⟨"CounterPlacer$Mender", "costOfMore", "(II)I"⟩, 4) := ⟨⟨by decide +kernel, by decide +kernel⟩, List.mem_of_getElem? (i := 66) (by decide +kernel), List.mem_of_getElem? (i := 731) (by decide +kernel), List.mem_of_getElem? (i := 732) (by decide +kernel)⟩
theorem lw_p36 : lw_okq (⟨"CounterPlacer$Mender", "comeNearer", "(IIII)Z"⟩, 4) := ⟨⟨by decide +kernel, by decide +kernel⟩, List.mem_of_getElem? (i := 66) (by decide +kernel), List.mem_of_getElem? (i := 735) (by decide +kernel), List.mem_of_getElem? (i := 736) (by decide +kernel)⟩
theorem lw_p37 : lw_okq (⟨"CounterPlacer$Mender", "costOfLess", "(II)I"⟩, 4) := ⟨⟨by decide +kernel, by decide +kernel⟩, List.mem_of_getElem? (i := 66) (by decide +kernel), List.mem_of_getElem? (i := 739) (by decide +kernel), List.mem_of_getElem? (i := 740) (by decide +kernel)⟩
theorem lw_p38 : lw_okq (⟨"CounterPlacer$Mender", "nearestLack", "(LCounterPlacer$Shape;)I"⟩, 4) := ⟨⟨by decide +kernel, by decide +kernel⟩, List.mem_of_getElem? (i := 66) (by decide +kernel), List.mem_of_getElem? (i := 743) (by decide +kernel), List.mem_of_getElem? (i := 744) (by decide +kernel)⟩
theorem lw_p39 : lw_okq (⟨"CounterPlacer$Mender", "carryTo", "(ILCounterPlacer$Shape;[I)V"⟩, 4) := ⟨⟨by decide +kernel, by decide +kernel⟩, List.mem_of_getElem? (i := 66) (by decide +kernel), List.mem_of_getElem? (i := 747) (by decide +kernel), List.mem_of_getElem? (i := 748) (by decide +kernel)⟩
theorem lw_p40 : lw_okq (⟨"CounterPlacer$Mender", "roomForMore", "(II)I"⟩, 4) := ⟨⟨by decide +kernel, by decide +kernel⟩, List.mem_of_getElem? (i := 66) (by decide +kernel), List.mem_of_getElem? (i := 751) (by decide +kernel), List.mem_of_getElem? (i := 752) (by decide +kernel)⟩
theorem lw_p41 : lw_okq (⟨"CounterPlacer$Mender", "roomForLess", "(II)I"⟩, 4) := ⟨⟨by decide +kernel, by decide +kernel⟩, List.mem_of_getElem? (i := 66) (by decide +kernel), List.mem_of_getElem? (i := 755) (by decide +kernel), List.mem_of_getElem? (i := 756) (by decide +kernel)⟩
theorem lw_p42 : lw_okq (⟨"java/lang/Throwable", "fillInStackTrace", "(I)Ljava/lang/Throwable;"⟩, 6) := ⟨⟨by decide +kernel, by decide +kernel⟩, List.mem_of_getElem? (i := 809) (by decide +kernel), List.mem_of_getElem? (i := 807) (by decide +kernel), List.mem_of_getElem? (i := 808) (by decide +kernel)⟩
theorem lw_p43 : lw_okq (⟨"CounterPlacerModel", "isRoutine", "(I)Z"⟩, 56) := ⟨⟨by decide +kernel, by decide +kernel⟩, List.mem_of_getElem? (i := 901) (by decide +kernel), List.mem_of_getElem? (i := 1088) (by decide +kernel), List.mem_of_getElem? (i := 1089) (by decide +kernel)⟩
theorem lw_p44 : lw_okq (⟨"CounterPlacerModel", "isBlock", "(II)Z"⟩, 56) := ⟨⟨by decide +kernel, by decide +kernel⟩, List.mem_of_getElem? (i := 901) (by decide +kernel), List.mem_of_getElem? (i := 1096) (by decide +kernel), List.mem_of_getElem? (i := 1097) (by decide +kernel)⟩
theorem lw_p45 : lw_okq (⟨"CounterPlacerModel", "outs", "(II)I"⟩, 56) := ⟨⟨by decide +kernel, by decide +kernel⟩, List.mem_of_getElem? (i := 901) (by decide +kernel), List.mem_of_getElem? (i := 1104) (by decide +kernel), List.mem_of_getElem? (i := 1105) (by decide +kernel)⟩
theorem lw_p46 : lw_okq (⟨"CounterPlacerModel", "isEdge", "(II)Z"⟩, 56) := ⟨⟨by decide +kernel, by decide +kernel⟩, List.mem_of_getElem? (i := 901) (by decide +kernel), List.mem_of_getElem? (i := 1112) (by decide +kernel), List.mem_of_getElem? (i := 1113) (by decide +kernel)⟩
theorem lw_p47 : lw_okq (⟨"CounterPlacerModel", "why", "(I)I"⟩, 56) := ⟨⟨by decide +kernel, by decide +kernel⟩, List.mem_of_getElem? (i := 901) (by decide +kernel), List.mem_of_getElem? (i := 1120) (by decide +kernel), List.mem_of_getElem? (i := 1121) (by decide +kernel)⟩
def lw_privs_3 : List (MethodName × Nat) := [(⟨"CounterPlacer$Ways", "edgeFor", "(IJ)I"⟩, 11), (⟨"CounterPlacer$Mender", "takeCounts", "(LCounterPlacer$Shape;[I)V"⟩, 4), (⟨"CounterPlacer$Mender", "measure", "(LCounterPlacer$Shape;[I)V"⟩, 4), (⟨"CounterPlacer$Mender", "costOfMore", "(II)I"⟩, 4), (⟨"CounterPlacer$Mender", "comeNearer", "(IIII)Z"⟩, 4), (⟨"CounterPlacer$Mender", "costOfLess", "(II)I"⟩, 4), (⟨"CounterPlacer$Mender", "nearestLack", "(LCounterPlacer$Shape;)I"⟩, 4), (⟨"CounterPlacer$Mender", "carryTo", "(ILCounterPlacer$Shape;[I)V"⟩, 4), (⟨"CounterPlacer$Mender", "roomForMore", "(II)I"⟩, 4), (⟨"CounterPlacer$Mender", "roomForLess", "(II)I"⟩, 4), (⟨"java/lang/Throwable", "fillInStackTrace", "(I)Ljava/lang/Throwable;"⟩, 6), (⟨"CounterPlacerModel", "isRoutine", "(I)Z"⟩, 56), (⟨"CounterPlacerModel", "isBlock", "(II)Z"⟩, 56), (⟨"CounterPlacerModel", "outs", "(II)I"⟩, 56), (⟨"CounterPlacerModel", "isEdge", "(II)Z"⟩, 56), (⟨"CounterPlacerModel", "why", "(I)I"⟩, 56)]
theorem lw_r3 : ∀ q ∈ lw_privs_3, lw_okq q := List.forall_mem_cons.mpr ⟨lw_p32, List.forall_mem_cons.mpr ⟨lw_p33, List.forall_mem_cons.mpr ⟨lw_p34, List.forall_mem_cons.mpr ⟨lw_p35, List.forall_mem_cons.mpr ⟨lw_p36, List.forall_mem_cons.mpr ⟨lw_p37, List.forall_mem_cons.mpr ⟨lw_p38, List.forall_mem_cons.mpr ⟨lw_p39, List.forall_mem_cons.mpr ⟨lw_p40, List.forall_mem_cons.mpr ⟨lw_p41, List.forall_mem_cons.mpr ⟨lw_p42, List.forall_mem_cons.mpr ⟨lw_p43, List.forall_mem_cons.mpr ⟨lw_p44, List.forall_mem_cons.mpr ⟨lw_p45, List.forall_mem_cons.mpr ⟨lw_p46, List.forall_mem_cons.mpr ⟨lw_p47, fun _ h => absurd h List.not_mem_nil⟩⟩⟩⟩⟩⟩⟩⟩⟩⟩⟩⟩⟩⟩⟩⟩
theorem lw_p48 : lw_okq (⟨"CounterPlacerModel", "reach", "(IZ)V"⟩, 56) := ⟨⟨by decide +kernel, by decide +kernel⟩, List.mem_of_getElem? (i := 901) (by decide +kernel), List.mem_of_getElem? (i := 1124) (by decide +kernel), List.mem_of_getElem? (i := 1125) (by decide +kernel)⟩
theorem lw_p49 : lw_okq (⟨"CounterPlacerModel", "all", "(I)Z"⟩, 56) := ⟨⟨by decide +kernel, by decide +kernel⟩, List.mem_of_getElem? (i := 901) (by decide +kernel), List.mem_of_getElem? (i := 1128) (by decide +kernel), List.mem_of_getElem? (i := 1129) (by decide +kernel)⟩
theorem lw_p50 : lw_okq (⟨"CounterPlacerModel", "count", "(I)Z"⟩, 56) := ⟨⟨by decide +kernel, by decide +kernel⟩, List.mem_of_getElem? (i := 901) (by decide +kernel), List.mem_of_getElem? (i := 1132) (by decide +kernel), List.mem_of_getElem? (i := 1133) (by decide +kernel)⟩
theorem lw_p51 : lw_okq (⟨"CounterPlacerModel", "makePlan", "(I)V"⟩, 56) := ⟨⟨by decide +kernel, by decide +kernel⟩, List.mem_of_getElem? (i := 901) (by decide +kernel), List.mem_of_getElem? (i := 1138) (by decide +kernel), List.mem_of_getElem? (i := 1139) (by decide +kernel)⟩
theorem lw_p52 : lw_okq (⟨"CounterPlacerModel", "join", "(II)V"⟩, 56) := ⟨⟨by decide +kernel, by decide +kernel⟩, List.mem_of_getElem? (i := 901) (by decide +kernel), List.mem_of_getElem? (i := 1142) (by decide +kernel), List.mem_of_getElem? (i := 1143) (by decide +kernel)⟩
theorem lw_p53 : lw_okq (⟨"CounterPlacerModel", "grow", "(IZ)V"⟩, 56) := ⟨⟨by decide +kernel, by decide +kernel⟩, List.mem_of_getElem? (i := 901) (by decide +kernel), List.mem_of_getElem? (i := 1146) (by decide +kernel), List.mem_of_getElem? (i := 1147) (by decide +kernel)⟩
theorem lw_p54 : lw_okq (⟨"CounterPlacerModel", "isDone", "(I)Z"⟩, 56) := ⟨⟨by decide +kernel, by decide +kernel⟩, List.mem_of_getElem? (i := 901) (by decide +kernel), List.mem_of_getElem? (i := 1154) (by decide +kernel), List.mem_of_getElem? (i := 1155) (by decide +kernel)⟩
theorem lw_p55 : lw_okq (⟨"CounterPlacerModel", "fails", "(I)J"⟩, 56) := ⟨⟨by decide +kernel, by decide +kernel⟩, List.mem_of_getElem? (i := 901) (by decide +kernel), List.mem_of_getElem? (i := 1162) (by decide +kernel), List.mem_of_getElem? (i := 1163) (by decide +kernel)⟩
theorem lw_p56 : lw_okq (⟨"CounterPlacerModel", "ins", "(II)I"⟩, 56) := ⟨⟨by decide +kernel, by decide +kernel⟩, List.mem_of_getElem? (i := 901) (by decide +kernel), List.mem_of_getElem? (i := 1170) (by decide +kernel), List.mem_of_getElem? (i := 1171) (by decide +kernel)⟩
theorem lw_p57 : lw_okq (⟨"CounterPlacerModel", "openOf", "(II)I"⟩, 56) := ⟨⟨by decide +kernel, by decide +kernel⟩, List.mem_of_getElem? (i := 901) (by decide +kernel), List.mem_of_getElem? (i := 1179) (by decide +kernel), List.mem_of_getElem? (i := 1180) (by decide +kernel)⟩
theorem lw_p58 : lw_okq (⟨"CounterPlacerModel", "lay", "(I)V"⟩, 56) := ⟨⟨by decide +kernel, by decide +kernel⟩, List.mem_of_getElem? (i := 901) (by decide +kernel), List.mem_of_getElem? (i := 1187) (by decide +kernel), List.mem_of_getElem? (i := 1188) (by decide +kernel)⟩
theorem lw_p59 : lw_okq (⟨"CounterPlacerModel", "arc", "(II)V"⟩, 56) := ⟨⟨by decide +kernel, by decide +kernel⟩, List.mem_of_getElem? (i := 901) (by decide +kernel), List.mem_of_getElem? (i := 1191) (by decide +kernel), List.mem_of_getElem? (i := 1192) (by decide +kernel)⟩
theorem lw_p60 : lw_okq (⟨"CounterPlacerModel", "allGo", "()V"⟩, 56) := ⟨⟨by decide +kernel, by decide +kernel⟩, List.mem_of_getElem? (i := 901) (by decide +kernel), List.mem_of_getElem? (i := 1203) (by decide +kernel), List.mem_of_getElem? (i := 1204) (by decide +kernel)⟩
theorem lw_p61 : lw_okq (⟨"CounterPlacerModel", "comes", "(I)V"⟩, 56) := ⟨⟨by decide +kernel, by decide +kernel⟩, List.mem_of_getElem? (i := 901) (by decide +kernel), List.mem_of_getElem? (i := 1207) (by decide +kernel), List.mem_of_getElem? (i := 1208) (by decide +kernel)⟩
theorem lw_p62 : lw_okq (⟨"CounterPlacerModel", "goes", "(I)V"⟩, 56) := ⟨⟨by decide +kernel, by decide +kernel⟩, List.mem_of_getElem? (i := 901) (by decide +kernel), List.mem_of_getElem? (i := 1215) (by decide +kernel), List.mem_of_getElem? (i := 1216) (by decide +kernel)⟩
theorem lw_p63 : lw_okq (⟨"CounterPlacerModel", "ends", "(IJ)V"⟩, 56) := ⟨⟨by decide +kernel, by decide +kernel⟩, List.mem_of_getElem? (i := 901) (by decide +kernel), List.mem_of_getElem? (i := 1219) (by decide +kernel), List.mem_of_getElem? (i := 1220) (by decide +kernel)⟩
def lw_privs_4 : List (MethodName × Nat) := [(⟨"CounterPlacerModel", "reach", "(IZ)V"⟩, 56), (⟨"CounterPlacerModel", "all", "(I)Z"⟩, 56), (⟨"CounterPlacerModel", "count", "(I)Z"⟩, 56), (⟨"CounterPlacerModel", "makePlan", "(I)V"⟩, 56), (⟨"CounterPlacerModel", "join", "(II)V"⟩, 56), (⟨"CounterPlacerModel", "grow", "(IZ)V"⟩, 56), (⟨"CounterPlacerModel", "isDone", "(I)Z"⟩, 56), (⟨"CounterPlacerModel", "fails", "(I)J"⟩, 56), (⟨"CounterPlacerModel", "ins", "(II)I"⟩, 56), (⟨"CounterPlacerModel", "openOf", "(II)I"⟩, 56), (⟨"CounterPlacerModel", "lay", "(I)V"⟩, 56), (⟨"CounterPlacerModel", "arc", "(II)V"⟩, 56), (⟨"CounterPlacerModel", "allGo", "()V"⟩, 56), (⟨"CounterPlacerModel", "comes", "(I)V"⟩, 56), (⟨"CounterPlacerModel", "goes", "(I)V"⟩, 56), (⟨"CounterPlacerModel", "ends", "(IJ)V"⟩, 56)]
theorem lw_r4 : ∀ q ∈ lw_privs_4, lw_okq q := List.forall_mem_cons.mpr ⟨lw_p48, List.forall_mem_cons.mpr ⟨lw_p49, List.forall_mem_cons.mpr ⟨lw_p50, List.forall_mem_cons.mpr ⟨lw_p51, List.forall_mem_cons.mpr ⟨lw_p52, List.forall_mem_cons.mpr ⟨lw_p53, List.forall_mem_cons.mpr ⟨lw_p54, List.forall_mem_cons.mpr ⟨lw_p55, List.forall_mem_cons.mpr ⟨lw_p56, List.forall_mem_cons.mpr ⟨lw_p57, List.forall_mem_cons.mpr ⟨lw_p58, List.forall_mem_cons.mpr ⟨lw_p59, List.forall_mem_cons.mpr ⟨lw_p60, List.forall_mem_cons.mpr ⟨lw_p61, List.forall_mem_cons.mpr ⟨lw_p62, List.forall_mem_cons.mpr ⟨lw_p63, fun _ h => absurd h List.not_mem_nil⟩⟩⟩⟩⟩⟩⟩⟩⟩⟩⟩⟩⟩⟩⟩⟩
theorem lw_p64 : lw_okq (⟨"CounterPlacerModel", "isWay", "(IJ)Z"⟩, 56) := ⟨⟨by decide +kernel, by decide +kernel⟩, List.mem_of_getElem? (i := 901) (by decide +kernel), List.mem_of_getElem? (i := 1231) (by decide +kernel), List.mem_of_getElem? (i := 1232) (by decide +kernel)⟩
theorem lw_p65 : lw_okq (⟨"CounterPlacerModel", "push", "(IIJI)V"⟩, 56) := ⟨⟨by decide +kernel, by decide +kernel⟩, List.mem_of_getElem? (i := 901) (by decide +kernel), List.mem_of_getElem? (i := 1256) (by decide +kernel), List.mem_of_getElem? (i := 1257) (by decide +kernel)⟩
def lw_privs_5 : List (MethodName × Nat) := [(⟨"CounterPlacerModel", "isWay", "(IJ)Z"⟩, 56), (⟨"CounterPlacerModel", "push", "(IIJI)V"⟩, 56)]
theorem lw_r5 : ∀ q ∈ lw_privs_5, lw_okq q := List.forall_mem_cons.mpr ⟨lw_p64, List.forall_mem_cons.mpr ⟨lw_p65, fun _ h => absurd h List.not_mem_nil⟩⟩
def lw_privs : List (MethodName × Nat) := lw_privs_1 ++ (lw_privs_2 ++ (lw_privs_3 ++ (lw_privs_4 ++ (lw_privs_5))))
def lw_tbl : List Cond := k2_sels lw_privs ++ tables_1
theorem lw_privs_ok : ∀ q ∈ lw_privs, lw_okq q := by
  show ∀ q ∈ lw_privs_1 ++ (lw_privs_2 ++ (lw_privs_3 ++ (lw_privs_4 ++ (lw_privs_5)))), lw_okq q
  exact List.forall_mem_append.mpr ⟨lw_r1, List.forall_mem_append.mpr ⟨lw_r2, List.forall_mem_append.mpr ⟨lw_r3, List.forall_mem_append.mpr ⟨lw_r4, lw_r5⟩⟩⟩⟩
def RX0 : String := "CounterPlacer$Log"
def TX0 : u_T := fun k => match k with
  | 0 => ("CounterPlacer$Log", "gone", "[J", true)
  | 1 => ("CounterPlacer$Log", "counted", "[J", true)
  | 2 => ("CounterPlacer$Log", "stopped", "[J", true)
  | 3 => ("CounterPlacer$Log", "entries", "J", false)
  | _ => ("CounterPlacer$Log", "stoppedInAll", "J", false)
def tyX0 : Nat → FieldType := fun k => match k with
  | 0 => .array .long
  | 1 => .array .long
  | 2 => .array .long
  | 3 => .long
  | _ => .long
abbrev wsX00 : List Cond := u_ws RX0 TX0 5
theorem nmX0 : ∀ a, a < 5 → ∀ b, b < 5 → a ≠ b → (TX0 a).2.1 ≠ (TX0 b).2.1 := by decide +kernel
theorem tyX0_ok : ∀ k, k < 5 → parseFieldDescriptor (TX0 k).2.2.1 = some (tyX0 k) := by decide +kernel
abbrev cX0_init : ByteArray := prog_2_method_1_code
def yX0_init : MethodName := ⟨RX0, "<init>", "()V"⟩
abbrev cX0_clear : ByteArray := prog_2_method_2_code
def yX0_clear : MethodName := ⟨RX0, "clear", "()V"⟩
def RX1 : String := "CounterPlacer$Mender"
def TX1 : u_T := fun k => match k with
  | 0 => ("CounterPlacer$Mender", "count", "[I", true)
  | 1 => ("CounterPlacer$Mender", "excess", "[I", true)
  | 2 => ("CounterPlacer$Mender", "far", "[I", true)
  | _ => ("CounterPlacer$Mender", "cameBy", "[I", true)
def tyX1 : Nat → FieldType := fun k => match k with
  | 0 => .array .int
  | 1 => .array .int
  | 2 => .array .int
  | _ => .array .int
abbrev wsX10 : List Cond := u_ws RX1 TX1 4
theorem nmX1 : ∀ a, a < 4 → ∀ b, b < 4 → a ≠ b → (TX1 a).2.1 ≠ (TX1 b).2.1 := by decide +kernel
theorem tyX1_ok : ∀ k, k < 4 → parseFieldDescriptor (TX1 k).2.2.1 = some (tyX1 k) := by decide +kernel
abbrev cX1_init : ByteArray := prog_3_method_1_code
def yX1_init : MethodName := ⟨RX1, "<init>", "()V"⟩
abbrev cX1_leastChange : ByteArray := prog_3_method_2_code
def yX1_leastChange : MethodName := ⟨RX1, "leastChange", "(LCounterPlacer$Shape;[I)J"⟩
abbrev cX1_takeCounts : ByteArray := prog_3_method_3_code
def yX1_takeCounts : MethodName := ⟨RX1, "takeCounts", "(LCounterPlacer$Shape;[I)V"⟩
abbrev cX1_measure : ByteArray := prog_3_method_4_code
def yX1_measure : MethodName := ⟨RX1, "measure", "(LCounterPlacer$Shape;[I)V"⟩
abbrev cX1_comeNearer : ByteArray := prog_3_method_5_code
def yX1_comeNearer : MethodName := ⟨RX1, "comeNearer", "(IIII)Z"⟩
abbrev cX1_costOfMore : ByteArray := prog_3_method_6_code
def yX1_costOfMore : MethodName := ⟨RX1, "costOfMore", "(II)I"⟩
abbrev cX1_costOfLess : ByteArray := prog_3_method_7_code
def yX1_costOfLess : MethodName := ⟨RX1, "costOfLess", "(II)I"⟩
abbrev cX1_nearestLack : ByteArray := prog_3_method_8_code
def yX1_nearestLack : MethodName := ⟨RX1, "nearestLack", "(LCounterPlacer$Shape;)I"⟩
abbrev cX1_carryTo : ByteArray := prog_3_method_9_code
def yX1_carryTo : MethodName := ⟨RX1, "carryTo", "(ILCounterPlacer$Shape;[I)V"⟩
abbrev cX1_roomForMore : ByteArray := prog_3_method_10_code
def yX1_roomForMore : MethodName := ⟨RX1, "roomForMore", "(II)I"⟩
abbrev cX1_roomForLess : ByteArray := prog_3_method_11_code
def yX1_roomForLess : MethodName := ⟨RX1, "roomForLess", "(II)I"⟩
def RX2 : String := "CounterPlacer$Routine"
def TX2 : u_T := fun k => match k with
  | 0 => ("CounterPlacer$Routine", "number", "I", true)
  | 1 => ("CounterPlacer$Routine", "shape", "LCounterPlacer$Shape;", true)
  | 2 => ("CounterPlacer$Routine", "ways", "LCounterPlacer$Ways;", true)
  | 3 => ("CounterPlacer$Routine", "tree", "LCounterPlacer$Tree;", true)
  | 4 => ("CounterPlacer$Routine", "log", "LCounterPlacer$Log;", true)
  | 5 => ("CounterPlacer$Routine", "table", "LCounterPlacer$Table;", true)
  | 6 => ("CounterPlacer$Routine", "blurred", "[I", true)
  | 7 => ("CounterPlacer$Routine", "lost", "[J", true)
  | _ => ("CounterPlacer$Routine", "finished", "Z", false)
def tyX2 : Nat → FieldType := fun k => match k with
  | 0 => .int
  | 1 => .object "CounterPlacer$Shape"
  | 2 => .object "CounterPlacer$Ways"
  | 3 => .object "CounterPlacer$Tree"
  | 4 => .object "CounterPlacer$Log"
  | 5 => .object "CounterPlacer$Table"
  | 6 => .array .int
  | 7 => .array .long
  | _ => .boolean
abbrev wsX20 : List Cond := u_ws RX2 TX2 9
theorem nmX2 : ∀ a, a < 9 → ∀ b, b < 9 → a ≠ b → (TX2 a).2.1 ≠ (TX2 b).2.1 := by decide +kernel
theorem tyX2_ok : ∀ k, k < 9 → parseFieldDescriptor (TX2 k).2.2.1 = some (tyX2 k) := by decide +kernel
abbrev cX2_init : ByteArray := prog_4_method_1_code
def yX2_init : MethodName := ⟨RX2, "<init>", "(ILCounterPlacer$Shape;LCounterPlacer$Ways;LCounterPlacer$Tree;)V"⟩
abbrev cX2_made : ByteArray := prog_4_method_2_code
def yX2_made : MethodName := ⟨RX2, "made", "(I)LCounterPlacer$Routine;"⟩
abbrev cX2_settle : ByteArray := prog_4_method_3_code
def yX2_settle : MethodName := ⟨RX2, "settle", "()I"⟩
abbrev cX2_planAnew : ByteArray := prog_4_method_4_code
def yX2_planAnew : MethodName := ⟨RX2, "planAnew", "()V"⟩
abbrev cX2_hasCounter : ByteArray := prog_4_method_5_code
def yX2_hasCounter : MethodName := ⟨RX2, "hasCounter", "(I)Z"⟩
abbrev cX2_ofItself : ByteArray := prog_4_method_6_code
def yX2_ofItself : MethodName := ⟨RX2, "ofItself", "(I)J"⟩
abbrev cX2_countOfEdge : ByteArray := prog_4_method_7_code
def yX2_countOfEdge : MethodName := ⟨RX2, "countOfEdge", "(II)J"⟩
abbrev cX2_countOfBlock : ByteArray := prog_4_method_8_code
def yX2_countOfBlock : MethodName := ⟨RX2, "countOfBlock", "(II)J"⟩
abbrev cX2_rebuiltCount : ByteArray := prog_4_method_9_code
def yX2_rebuiltCount : MethodName := ⟨RX2, "rebuiltCount", "(ILCounterPlacer$Walk;)J"⟩
abbrev cX2_toldCount : ByteArray := prog_4_method_10_code
def yX2_toldCount : MethodName := ⟨RX2, "toldCount", "(I)J"⟩
abbrev cX2_countEntry : ByteArray := prog_4_method_11_code
def yX2_countEntry : MethodName := ⟨RX2, "countEntry", "()V"⟩
abbrev cX2_countStopped : ByteArray := prog_4_method_12_code
def yX2_countStopped : MethodName := ⟨RX2, "countStopped", "(I)V"⟩
abbrev cX2_countGone : ByteArray := prog_4_method_13_code
def yX2_countGone : MethodName := ⟨RX2, "countGone", "(I)I"⟩
def RX3 : String := "CounterPlacer$Shape"
def TX3 : u_T := fun k => match k with
  | 0 => ("CounterPlacer$Shape", "kind", "[I", true)
  | 1 => ("CounterPlacer$Shape", "calls", "[I", true)
  | 2 => ("CounterPlacer$Shape", "outs", "[I", true)
  | 3 => ("CounterPlacer$Shape", "ins", "[I", true)
  | 4 => ("CounterPlacer$Shape", "out", "[I", true)
  | 5 => ("CounterPlacer$Shape", "from", "[I", true)
  | 6 => ("CounterPlacer$Shape", "to", "[I", true)
  | 7 => ("CounterPlacer$Shape", "guesses", "[I", true)
  | 8 => ("CounterPlacer$Shape", "back", "[Z", true)
  | 9 => ("CounterPlacer$Shape", "marked", "[Z", true)
  | 10 => ("CounterPlacer$Shape", "blocks", "I", false)
  | 11 => ("CounterPlacer$Shape", "edges", "I", false)
  | _ => ("CounterPlacer$Shape", "links", "I", false)
def tyX3 : Nat → FieldType := fun k => match k with
  | 0 => .array .int
  | 1 => .array .int
  | 2 => .array .int
  | 3 => .array .int
  | 4 => .array .int
  | 5 => .array .int
  | 6 => .array .int
  | 7 => .array .int
  | 8 => .array .boolean
  | 9 => .array .boolean
  | 10 => .int
  | 11 => .int
  | _ => .int
abbrev wsX30 : List Cond := u_ws RX3 TX3 13
theorem nmX3 : ∀ a, a < 13 → ∀ b, b < 13 → a ≠ b → (TX3 a).2.1 ≠ (TX3 b).2.1 := by decide +kernel
theorem tyX3_ok : ∀ k, k < 13 → parseFieldDescriptor (TX3 k).2.2.1 = some (tyX3 k) := by decide +kernel
abbrev cX3_init : ByteArray := prog_5_method_1_code
def yX3_init : MethodName := ⟨RX3, "<init>", "()V"⟩
abbrev cX3_hasBlock : ByteArray := prog_5_method_2_code
def yX3_hasBlock : MethodName := ⟨RX3, "hasBlock", "(I)Z"⟩
abbrev cX3_hasEdge : ByteArray := prog_5_method_3_code
def yX3_hasEdge : MethodName := ⟨RX3, "hasEdge", "(I)Z"⟩
abbrev cX3_endsIn : ByteArray := prog_5_method_4_code
def yX3_endsIn : MethodName := ⟨RX3, "endsIn", "(I)Z"⟩
abbrev cX3_addBlock : ByteArray := prog_5_method_5_code
def yX3_addBlock : MethodName := ⟨RX3, "addBlock", "(II)I"⟩
abbrev cX3_addEdge : ByteArray := prog_5_method_6_code
def yX3_addEdge : MethodName := ⟨RX3, "addEdge", "(IIIZ)I"⟩
abbrev cX3_outOf : ByteArray := prog_5_method_7_code
def yX3_outOf : MethodName := ⟨RX3, "outOf", "(II)I"⟩
abbrev cX3_firstFault : ByteArray := prog_5_method_8_code
def yX3_firstFault : MethodName := ⟨RX3, "firstFault", "()I"⟩
abbrev cX3_outsFitKinds : ByteArray := prog_5_method_9_code
def yX3_outsFitKinds : MethodName := ⟨RX3, "outsFitKinds", "()Z"⟩
abbrev cX3_allReached : ByteArray := prog_5_method_10_code
def yX3_allReached : MethodName := ⟨RX3, "allReached", "()Z"⟩
abbrev cX3_allCanEnd : ByteArray := prog_5_method_11_code
def yX3_allCanEnd : MethodName := ⟨RX3, "allCanEnd", "()Z"⟩
abbrev cX3_marksSpread : ByteArray := prog_5_method_12_code
def yX3_marksSpread : MethodName := ⟨RX3, "marksSpread", "([I[I)Z"⟩
abbrev cX3_linkEnd : ByteArray := prog_5_method_13_code
def yX3_linkEnd : MethodName := ⟨RX3, "linkEnd", "()V"⟩
abbrev cX3_addLink : ByteArray := prog_5_method_14_code
def yX3_addLink : MethodName := ⟨RX3, "addLink", "(II)V"⟩
abbrev cX3_standOf : ByteArray := prog_5_method_15_code
def yX3_standOf : MethodName := ⟨RX3, "standOf", "(I)I"⟩
abbrev cX3_shapeOfEdge : ByteArray := prog_5_method_16_code
def yX3_shapeOfEdge : MethodName := ⟨RX3, "shapeOfEdge", "(II)J"⟩
abbrev cX3_shapeOfBlock : ByteArray := prog_5_method_17_code
def yX3_shapeOfBlock : MethodName := ⟨RX3, "shapeOfBlock", "(II)J"⟩
def RX4 : String := "CounterPlacer$Table"
def TX4 : u_T := fun k => match k with
  | 0 => ("CounterPlacer$Table", "way", "[J", true)
  | 1 => ("CounterPlacer$Table", "times", "[J", true)
  | 2 => ("CounterPlacer$Table", "rows", "I", false)
  | _ => ("CounterPlacer$Table", "fellOut", "J", false)
def tyX4 : Nat → FieldType := fun k => match k with
  | 0 => .array .long
  | 1 => .array .long
  | 2 => .int
  | _ => .long
abbrev wsX40 : List Cond := u_ws RX4 TX4 4
theorem nmX4 : ∀ a, a < 4 → ∀ b, b < 4 → a ≠ b → (TX4 a).2.1 ≠ (TX4 b).2.1 := by decide +kernel
theorem tyX4_ok : ∀ k, k < 4 → parseFieldDescriptor (TX4 k).2.2.1 = some (tyX4 k) := by decide +kernel
abbrev cX4_init : ByteArray := prog_6_method_1_code
def yX4_init : MethodName := ⟨RX4, "<init>", "()V"⟩
abbrev cX4_clear : ByteArray := prog_6_method_2_code
def yX4_clear : MethodName := ⟨RX4, "clear", "()V"⟩
abbrev cX4_count : ByteArray := prog_6_method_3_code
def yX4_count : MethodName := ⟨RX4, "count", "(J)V"⟩
abbrev cX4_inRow : ByteArray := prog_6_method_4_code
def yX4_inRow : MethodName := ⟨RX4, "inRow", "(II)J"⟩
def RX5 : String := "CounterPlacer$Tree"
def TX5 : u_T := fun k => match k with
  | 0 => ("CounterPlacer$Tree", "shape", "LCounterPlacer$Shape;", true)
  | 1 => ("CounterPlacer$Tree", "order", "[I", true)
  | 2 => ("CounterPlacer$Tree", "within", "[Z", true)
  | 3 => ("CounterPlacer$Tree", "part", "[I", true)
  | 4 => ("CounterPlacer$Tree", "up", "[I", true)
  | 5 => ("CounterPlacer$Tree", "line", "[I", true)
  | 6 => ("CounterPlacer$Tree", "lined", "[Z", true)
  | 7 => ("CounterPlacer$Tree", "surplus", "[J", true)
  | 8 => ("CounterPlacer$Tree", "rebuilt", "[J", true)
  | 9 => ("CounterPlacer$Tree", "lineLength", "I", false)
  | 10 => ("CounterPlacer$Tree", "counters", "I", false)
  | _ => ("CounterPlacer$Tree", "guessed", "J", false)
def tyX5 : Nat → FieldType := fun k => match k with
  | 0 => .object "CounterPlacer$Shape"
  | 1 => .array .int
  | 2 => .array .boolean
  | 3 => .array .int
  | 4 => .array .int
  | 5 => .array .int
  | 6 => .array .boolean
  | 7 => .array .long
  | 8 => .array .long
  | 9 => .int
  | 10 => .int
  | _ => .long
abbrev wsX50 : List Cond := u_ws RX5 TX5 12
theorem nmX5 : ∀ a, a < 12 → ∀ b, b < 12 → a ≠ b → (TX5 a).2.1 ≠ (TX5 b).2.1 := by decide +kernel
theorem tyX5_ok : ∀ k, k < 12 → parseFieldDescriptor (TX5 k).2.2.1 = some (tyX5 k) := by decide +kernel
abbrev cX5_init : ByteArray := prog_7_method_1_code
def yX5_init : MethodName := ⟨RX5, "<init>", "(LCounterPlacer$Shape;)V"⟩
abbrev cX5_grow : ByteArray := prog_7_method_2_code
def yX5_grow : MethodName := ⟨RX5, "grow", "()V"⟩
abbrev cX5_sortByGuess : ByteArray := prog_7_method_3_code
def yX5_sortByGuess : MethodName := ⟨RX5, "sortByGuess", "()V"⟩
abbrev cX5_takeLinks : ByteArray := prog_7_method_4_code
def yX5_takeLinks : MethodName := ⟨RX5, "takeLinks", "()V"⟩
abbrev cX5_joinParts : ByteArray := prog_7_method_5_code
def yX5_joinParts : MethodName := ⟨RX5, "joinParts", "(I)Z"⟩
abbrev cX5_lineUpFromEnd : ByteArray := prog_7_method_6_code
def yX5_lineUpFromEnd : MethodName := ⟨RX5, "lineUpFromEnd", "()V"⟩
abbrev cX5_lineUp : ByteArray := prog_7_method_7_code
def yX5_lineUp : MethodName := ⟨RX5, "lineUp", "(II)V"⟩
abbrev cX5_otherEnd : ByteArray := prog_7_method_8_code
def yX5_otherEnd : MethodName := ⟨RX5, "otherEnd", "(II)I"⟩
abbrev cX5_placeInRing : ByteArray := prog_7_method_9_code
def yX5_placeInRing : MethodName := ⟨RX5, "placeInRing", "(II)I"⟩
abbrev cX5_isBelow : ByteArray := prog_7_method_10_code
def yX5_isBelow : MethodName := ⟨RX5, "isBelow", "(II)Z"⟩
abbrev cX5_rebuild : ByteArray := prog_7_method_11_code
def yX5_rebuild : MethodName := ⟨RX5, "rebuild", "([J[J)V"⟩
abbrev cX5_carry : ByteArray := prog_7_method_12_code
def yX5_carry : MethodName := ⟨RX5, "carry", "(IJ)V"⟩
def RX6 : String := "CounterPlacer$Walk"
def TX6 : u_T := fun k => match k with
  | 0 => ("CounterPlacer$Walk", "routineOf", "[LCounterPlacer$Routine;", true)
  | 1 => ("CounterPlacer$Walk", "blockOf", "[I", true)
  | 2 => ("CounterPlacer$Walk", "sumOf", "[J", true)
  | 3 => ("CounterPlacer$Walk", "frames", "I", false)
  | 4 => ("CounterPlacer$Walk", "state", "I", false)
  | 5 => ("CounterPlacer$Walk", "steps", "I", false)
  | 6 => ("CounterPlacer$Walk", "price", "I", false)
  | 7 => ("CounterPlacer$Walk", "forks", "I", false)
  | _ => ("CounterPlacer$Walk", "choices", "I", false)
def tyX6 : Nat → FieldType := fun k => match k with
  | 0 => .array (.object "CounterPlacer$Routine")
  | 1 => .array .int
  | 2 => .array .long
  | 3 => .int
  | 4 => .int
  | 5 => .int
  | 6 => .int
  | 7 => .int
  | _ => .int
abbrev wsX60 : List Cond := u_ws RX6 TX6 9
theorem nmX6 : ∀ a, a < 9 → ∀ b, b < 9 → a ≠ b → (TX6 a).2.1 ≠ (TX6 b).2.1 := by decide +kernel
theorem tyX6_ok : ∀ k, k < 9 → parseFieldDescriptor (TX6 k).2.2.1 = some (tyX6 k) := by decide +kernel
abbrev cX6_init : ByteArray := prog_8_method_1_code
def yX6_init : MethodName := ⟨RX6, "<init>", "()V"⟩
abbrev cX6_startIn : ByteArray := prog_8_method_2_code
def yX6_startIn : MethodName := ⟨RX6, "startIn", "(LCounterPlacer$Routine;)V"⟩
abbrev cX6_stepOn : ByteArray := prog_8_method_3_code
def yX6_stepOn : MethodName := ⟨RX6, "stepOn", "(II[LCounterPlacer$Routine;)I"⟩
abbrev cX6_step : ByteArray := prog_8_method_4_code
def yX6_step : MethodName := ⟨RX6, "step", "([LCounterPlacer$Routine;)V"⟩
abbrev cX6_choose : ByteArray := prog_8_method_5_code
def yX6_choose : MethodName := ⟨RX6, "choose", "(I)I"⟩
abbrev cX6_enterCalled : ByteArray := prog_8_method_6_code
def yX6_enterCalled : MethodName := ⟨RX6, "enterCalled", "(I[LCounterPlacer$Routine;)V"⟩
abbrev cX6_enter : ByteArray := prog_8_method_7_code
def yX6_enter : MethodName := ⟨RX6, "enter", "(LCounterPlacer$Routine;)V"⟩
abbrev cX6_leave : ByteArray := prog_8_method_8_code
def yX6_leave : MethodName := ⟨RX6, "leave", "(LCounterPlacer$Routine;)V"⟩
abbrev cX6_cross : ByteArray := prog_8_method_9_code
def yX6_cross : MethodName := ⟨RX6, "cross", "(LCounterPlacer$Routine;I)V"⟩
abbrev cX6_dropFrames : ByteArray := prog_8_method_10_code
def yX6_dropFrames : MethodName := ⟨RX6, "dropFrames", "()V"⟩
abbrev cX6_topRoutine : ByteArray := prog_8_method_11_code
def yX6_topRoutine : MethodName := ⟨RX6, "topRoutine", "()LCounterPlacer$Routine;"⟩
abbrev cX6_hasFrameOf : ByteArray := prog_8_method_12_code
def yX6_hasFrameOf : MethodName := ⟨RX6, "hasFrameOf", "(I)Z"⟩
abbrev cX6_openAt : ByteArray := prog_8_method_13_code
def yX6_openAt : MethodName := ⟨RX6, "openAt", "(II)I"⟩
abbrev cX6_isOf : ByteArray := prog_8_method_14_code
def yX6_isOf : MethodName := ⟨RX6, "isOf", "(II)Z"⟩
abbrev cX6_ofRun : ByteArray := prog_8_method_15_code
def yX6_ofRun : MethodName := ⟨RX6, "ofRun", "(I)I"⟩
def RX7 : String := "CounterPlacer$Ways"
def TX7 : u_T := fun k => match k with
  | 0 => ("CounterPlacer$Ways", "shape", "LCounterPlacer$Shape;", true)
  | 1 => ("CounterPlacer$Ways", "from", "[J", true)
  | 2 => ("CounterPlacer$Ways", "base", "[J", true)
  | 3 => ("CounterPlacer$Ways", "potential", "[J", true)
  | 4 => ("CounterPlacer$Ways", "add", "[J", true)
  | 5 => ("CounterPlacer$Ways", "light", "[J", true)
  | 6 => ("CounterPlacer$Ways", "least", "[I", true)
  | 7 => ("CounterPlacer$Ways", "passedBlocks", "[I", true)
  | 8 => ("CounterPlacer$Ways", "passedEdges", "[I", true)
  | 9 => ("CounterPlacer$Ways", "passed", "I", false)
  | _ => ("CounterPlacer$Ways", "total", "J", false)
def tyX7 : Nat → FieldType := fun k => match k with
  | 0 => .object "CounterPlacer$Shape"
  | 1 => .array .long
  | 2 => .array .long
  | 3 => .array .long
  | 4 => .array .long
  | 5 => .array .long
  | 6 => .array .int
  | 7 => .array .int
  | 8 => .array .int
  | 9 => .int
  | _ => .long
abbrev wsX70 : List Cond := u_ws RX7 TX7 11
theorem nmX7 : ∀ a, a < 11 → ∀ b, b < 11 → a ≠ b → (TX7 a).2.1 ≠ (TX7 b).2.1 := by decide +kernel
theorem tyX7_ok : ∀ k, k < 11 → parseFieldDescriptor (TX7 k).2.2.1 = some (tyX7 k) := by decide +kernel
abbrev cX7_init : ByteArray := prog_9_method_1_code
def yX7_init : MethodName := ⟨RX7, "<init>", "(LCounterPlacer$Shape;)V"⟩
abbrev cX7_firstFault : ByteArray := prog_9_method_2_code
def yX7_firstFault : MethodName := ⟨RX7, "firstFault", "()I"⟩
abbrev cX7_countFromBlocks : ByteArray := prog_9_method_3_code
def yX7_countFromBlocks : MethodName := ⟨RX7, "countFromBlocks", "()Z"⟩
abbrev cX7_countFrom : ByteArray := prog_9_method_4_code
def yX7_countFrom : MethodName := ⟨RX7, "countFrom", "(I)J"⟩
abbrev cX7_countBeyond : ByteArray := prog_9_method_5_code
def yX7_countBeyond : MethodName := ⟨RX7, "countBeyond", "(I)J"⟩
abbrev cX7_sumAdds : ByteArray := prog_9_method_6_code
def yX7_sumAdds : MethodName := ⟨RX7, "sumAdds", "()V"⟩
abbrev cX7_setBases : ByteArray := prog_9_method_7_code
def yX7_setBases : MethodName := ⟨RX7, "setBases", "()V"⟩
abbrev cX7_lighten : ByteArray := prog_9_method_8_code
def yX7_lighten : MethodName := ⟨RX7, "lighten", "([I)V"⟩
abbrev cX7_joinTrees : ByteArray := prog_9_method_9_code
def yX7_joinTrees : MethodName := ⟨RX7, "joinTrees", "(I)V"⟩
abbrev cX7_unfold : ByteArray := prog_9_method_10_code
def yX7_unfold : MethodName := ⟨RX7, "unfold", "(J)Z"⟩
abbrev cX7_beginningOf : ByteArray := prog_9_method_11_code
def yX7_beginningOf : MethodName := ⟨RX7, "beginningOf", "(J)I"⟩
abbrev cX7_edgeFor : ByteArray := prog_9_method_12_code
def yX7_edgeFor : MethodName := ⟨RX7, "edgeFor", "(IJ)I"⟩
abbrev cX7_unfoldedBlock : ByteArray := prog_9_method_13_code
def yX7_unfoldedBlock : MethodName := ⟨RX7, "unfoldedBlock", "(I)I"⟩
abbrev cX7_unfoldedEdge : ByteArray := prog_9_method_14_code
def yX7_unfoldedEdge : MethodName := ⟨RX7, "unfoldedEdge", "(I)I"⟩
abbrev cX7_unfoldedHas : ByteArray := prog_9_method_15_code
def yX7_unfoldedHas : MethodName := ⟨RX7, "unfoldedHas", "(I)Z"⟩
def RX8 : String := "CounterPlacer"
def TX8 : u_T := fun k => match k with
  | 0 => ("CounterPlacer", "routines", "[LCounterPlacer$Routine;", true)
  | 1 => ("CounterPlacer", "walk", "LCounterPlacer$Walk;", true)
  | 2 => ("CounterPlacer", "mender", "LCounterPlacer$Mender;", true)
  | _ => ("CounterPlacer", "routineCount", "I", false)
def tyX8 : Nat → FieldType := fun k => match k with
  | 0 => .array (.object "CounterPlacer$Routine")
  | 1 => .object "CounterPlacer$Walk"
  | 2 => .object "CounterPlacer$Mender"
  | _ => .int
abbrev wsX80 : List Cond := u_ws RX8 TX8 4
theorem nmX8 : ∀ a, a < 4 → ∀ b, b < 4 → a ≠ b → (TX8 a).2.1 ≠ (TX8 b).2.1 := by decide +kernel
theorem tyX8_ok : ∀ k, k < 4 → parseFieldDescriptor (TX8 k).2.2.1 = some (tyX8 k) := by decide +kernel
abbrev cX8_init : ByteArray := prog_1_method_1_code
def yX8_init : MethodName := ⟨RX8, "<init>", "()V"⟩
abbrev cX8_routine : ByteArray := prog_1_method_2_code
def yX8_routine : MethodName := ⟨RX8, "routine", "()I"⟩
abbrev cX8_block : ByteArray := prog_1_method_3_code
def yX8_block : MethodName := ⟨RX8, "block", "(III)I"⟩
abbrev cX8_edge : ByteArray := prog_1_method_4_code
def yX8_edge : MethodName := ⟨RX8, "edge", "(IIIIZ)I"⟩
abbrev cX8_guess : ByteArray := prog_1_method_5_code
def yX8_guess : MethodName := ⟨RX8, "guess", "(III)Z"⟩
abbrev cX8_finish : ByteArray := prog_1_method_6_code
def yX8_finish : MethodName := ⟨RX8, "finish", "(I)I"⟩
abbrev cX8_plan : ByteArray := prog_1_method_7_code
def yX8_plan : MethodName := ⟨RX8, "plan", "(I)I"⟩
abbrev cX8_look : ByteArray := prog_1_method_8_code
def yX8_look : MethodName := ⟨RX8, "look", "(II)J"⟩
abbrev cX8_ofEdge : ByteArray := prog_1_method_9_code
def yX8_ofEdge : MethodName := ⟨RX8, "ofEdge", "(III)J"⟩
abbrev cX8_ofBlock : ByteArray := prog_1_method_10_code
def yX8_ofBlock : MethodName := ⟨RX8, "ofBlock", "(III)J"⟩
abbrev cX8_solve : ByteArray := prog_1_method_11_code
def yX8_solve : MethodName := ⟨RX8, "solve", "(II)J"⟩
abbrev cX8_ring : ByteArray := prog_1_method_12_code
def yX8_ring : MethodName := ⟨RX8, "ring", "(III)I"⟩
abbrev cX8_begin : ByteArray := prog_1_method_13_code
def yX8_begin : MethodName := ⟨RX8, "begin", "(I)Z"⟩
abbrev cX8_go : ByteArray := prog_1_method_14_code
def yX8_go : MethodName := ⟨RX8, "go", "(II)I"⟩
abbrev cX8_run : ByteArray := prog_1_method_15_code
def yX8_run : MethodName := ⟨RX8, "run", "(I)I"⟩
abbrev cX8_way : ByteArray := prog_1_method_16_code
def yX8_way : MethodName := ⟨RX8, "way", "(IJI)I"⟩
abbrev cX8_along : ByteArray := prog_1_method_17_code
def yX8_along : MethodName := ⟨RX8, "along", "(IJI)I"⟩
abbrev cX8_table : ByteArray := prog_1_method_18_code
def yX8_table : MethodName := ⟨RX8, "table", "(III)J"⟩
abbrev cX8_told : ByteArray := prog_1_method_19_code
def yX8_told : MethodName := ⟨RX8, "told", "(II)J"⟩
abbrev cX8_blur : ByteArray := prog_1_method_20_code
def yX8_blur : MethodName := ⟨RX8, "blur", "(III)Z"⟩
abbrev cX8_mend : ByteArray := prog_1_method_21_code
def yX8_mend : MethodName := ⟨RX8, "mend", "(I)J"⟩
abbrev cX8_isCount : ByteArray := prog_1_method_22_code
def yX8_isCount : MethodName := ⟨RX8, "isCount", "(I)Z"⟩
abbrev cX8_routineAt : ByteArray := prog_1_method_23_code
def yX8_routineAt : MethodName := ⟨RX8, "routineAt", "(I)LCounterPlacer$Routine;"⟩
abbrev cX8_finishedAt : ByteArray := prog_1_method_24_code
def yX8_finishedAt : MethodName := ⟨RX8, "finishedAt", "(I)LCounterPlacer$Routine;"⟩
abbrev cX8_finishedWithEdge : ByteArray := prog_1_method_25_code
def yX8_finishedWithEdge : MethodName := ⟨RX8, "finishedWithEdge", "(II)LCounterPlacer$Routine;"⟩
def RX9 : String := "CounterPlacerModel"
def TX9 : u_T := fun k => match k with
  | 0 => ("CounterPlacerModel", "routines", "I", false)
  | 1 => ("CounterPlacerModel", "blocks", "[I", true)
  | 2 => ("CounterPlacerModel", "edges", "[I", true)
  | 3 => ("CounterPlacerModel", "finished", "[Z", true)
  | 4 => ("CounterPlacerModel", "kind", "[I", true)
  | 5 => ("CounterPlacerModel", "calls", "[I", true)
  | 6 => ("CounterPlacerModel", "from", "[I", true)
  | 7 => ("CounterPlacerModel", "to", "[I", true)
  | 8 => ("CounterPlacerModel", "guesses", "[I", true)
  | 9 => ("CounterPlacerModel", "back", "[Z", true)
  | 10 => ("CounterPlacerModel", "blurred", "[I", true)
  | 11 => ("CounterPlacerModel", "counted", "[Z", true)
  | 12 => ("CounterPlacerModel", "planSum", "[J", true)
  | 13 => ("CounterPlacerModel", "planMany", "[I", true)
  | 14 => ("CounterPlacerModel", "ways", "[J", true)
  | 15 => ("CounterPlacerModel", "n", "[J", true)
  | 16 => ("CounterPlacerModel", "base", "[J", true)
  | 17 => ("CounterPlacerModel", "add", "[J", true)
  | 18 => ("CounterPlacerModel", "p", "[J", true)
  | 19 => ("CounterPlacerModel", "entries", "[J", true)
  | 20 => ("CounterPlacerModel", "fell", "[J", true)
  | 21 => ("CounterPlacerModel", "stopped", "[J", true)
  | 22 => ("CounterPlacerModel", "truth", "[J", true)
  | 23 => ("CounterPlacerModel", "counter", "[J", true)
  | 24 => ("CounterPlacerModel", "rows", "[I", true)
  | 25 => ("CounterPlacerModel", "rowWay", "[J", true)
  | 26 => ("CounterPlacerModel", "rowMany", "[J", true)
  | 27 => ("CounterPlacerModel", "state", "I", false)
  | 28 => ("CounterPlacerModel", "frames", "I", false)
  | 29 => ("CounterPlacerModel", "steps", "I", false)
  | 30 => ("CounterPlacerModel", "price", "I", false)
  | 31 => ("CounterPlacerModel", "fRoutine", "[I", true)
  | 32 => ("CounterPlacerModel", "fBlock", "[I", true)
  | 33 => ("CounterPlacerModel", "fWay", "[J", true)
  | 34 => ("CounterPlacerModel", "thrown", "I", false)
  | 35 => ("CounterPlacerModel", "seen", "[Z", true)
  | 36 => ("CounterPlacerModel", "set", "[I", true)
  | 37 => ("CounterPlacerModel", "inTree", "[Z", true)
  | 38 => ("CounterPlacerModel", "isTried", "[Z", true)
  | 39 => ("CounterPlacerModel", "arcFrom", "[I", true)
  | 40 => ("CounterPlacerModel", "arcTo", "[I", true)
  | 41 => ("CounterPlacerModel", "arcCount", "[J", true)
  | 42 => ("CounterPlacerModel", "known", "[Z", true)
  | 43 => ("CounterPlacerModel", "arcs", "I", false)
  | 44 => ("CounterPlacerModel", "cameBy", "[I", true)
  | 45 => ("CounterPlacerModel", "wayBlock", "[I", true)
  | 46 => ("CounterPlacerModel", "wayEdge", "[I", true)
  | 47 => ("CounterPlacerModel", "wayMany", "I", false)
  | 48 => ("CounterPlacerModel", "pFrom", "[I", true)
  | 49 => ("CounterPlacerModel", "pTo", "[I", true)
  | 50 => ("CounterPlacerModel", "pRoom", "[J", true)
  | 51 => ("CounterPlacerModel", "pCost", "[I", true)
  | 52 => ("CounterPlacerModel", "pushes", "I", false)
  | 53 => ("CounterPlacerModel", "over", "[J", true)
  | 54 => ("CounterPlacerModel", "far", "[I", true)
  | _ => ("CounterPlacerModel", "by", "[I", true)
def tyX9 : Nat → FieldType := fun k => match k with
  | 0 => .int
  | 1 => .array .int
  | 2 => .array .int
  | 3 => .array .boolean
  | 4 => .array .int
  | 5 => .array .int
  | 6 => .array .int
  | 7 => .array .int
  | 8 => .array .int
  | 9 => .array .boolean
  | 10 => .array .int
  | 11 => .array .boolean
  | 12 => .array .long
  | 13 => .array .int
  | 14 => .array .long
  | 15 => .array .long
  | 16 => .array .long
  | 17 => .array .long
  | 18 => .array .long
  | 19 => .array .long
  | 20 => .array .long
  | 21 => .array .long
  | 22 => .array .long
  | 23 => .array .long
  | 24 => .array .int
  | 25 => .array .long
  | 26 => .array .long
  | 27 => .int
  | 28 => .int
  | 29 => .int
  | 30 => .int
  | 31 => .array .int
  | 32 => .array .int
  | 33 => .array .long
  | 34 => .int
  | 35 => .array .boolean
  | 36 => .array .int
  | 37 => .array .boolean
  | 38 => .array .boolean
  | 39 => .array .int
  | 40 => .array .int
  | 41 => .array .long
  | 42 => .array .boolean
  | 43 => .int
  | 44 => .array .int
  | 45 => .array .int
  | 46 => .array .int
  | 47 => .int
  | 48 => .array .int
  | 49 => .array .int
  | 50 => .array .long
  | 51 => .array .int
  | 52 => .int
  | 53 => .array .long
  | 54 => .array .int
  | _ => .array .int
abbrev wsX90 : List Cond := u_ws RX9 TX9 56
theorem nmX9 : ∀ a, a < 56 → ∀ b, b < 56 → a ≠ b → (TX9 a).2.1 ≠ (TX9 b).2.1 := by decide +kernel
theorem tyX9_ok : ∀ k, k < 56 → parseFieldDescriptor (TX9 k).2.2.1 = some (tyX9 k) := by decide +kernel
abbrev cX9_init : ByteArray := prog_11_method_1_code
def yX9_init : MethodName := ⟨RX9, "<init>", "()V"⟩
abbrev cX9_thrown : ByteArray := prog_11_method_2_code
def yX9_thrown : MethodName := ⟨RX9, "thrown", "()I"⟩
abbrev cX9_isRoutine : ByteArray := prog_11_method_3_code
def yX9_isRoutine : MethodName := ⟨RX9, "isRoutine", "(I)Z"⟩
abbrev cX9_isDone : ByteArray := prog_11_method_4_code
def yX9_isDone : MethodName := ⟨RX9, "isDone", "(I)Z"⟩
abbrev cX9_isEdge : ByteArray := prog_11_method_5_code
def yX9_isEdge : MethodName := ⟨RX9, "isEdge", "(II)Z"⟩
abbrev cX9_isBlock : ByteArray := prog_11_method_6_code
def yX9_isBlock : MethodName := ⟨RX9, "isBlock", "(II)Z"⟩
abbrev cX9_routine : ByteArray := prog_11_method_7_code
def yX9_routine : MethodName := ⟨RX9, "routine", "()I"⟩
abbrev cX9_block : ByteArray := prog_11_method_8_code
def yX9_block : MethodName := ⟨RX9, "block", "(III)I"⟩
abbrev cX9_outs : ByteArray := prog_11_method_9_code
def yX9_outs : MethodName := ⟨RX9, "outs", "(II)I"⟩
abbrev cX9_ins : ByteArray := prog_11_method_10_code
def yX9_ins : MethodName := ⟨RX9, "ins", "(II)I"⟩
abbrev cX9_isGuess : ByteArray := prog_11_method_11_code
def yX9_isGuess : MethodName := ⟨RX9, "isGuess", "(I)Z"⟩
abbrev cX9_edge : ByteArray := prog_11_method_12_code
def yX9_edge : MethodName := ⟨RX9, "edge", "(IIIIZ)I"⟩
abbrev cX9_guess : ByteArray := prog_11_method_13_code
def yX9_guess : MethodName := ⟨RX9, "guess", "(III)Z"⟩
abbrev cX9_reach : ByteArray := prog_11_method_14_code
def yX9_reach : MethodName := ⟨RX9, "reach", "(IZ)V"⟩
abbrev cX9_all : ByteArray := prog_11_method_15_code
def yX9_all : MethodName := ⟨RX9, "all", "(I)Z"⟩
abbrev cX9_count : ByteArray := prog_11_method_16_code
def yX9_count : MethodName := ⟨RX9, "count", "(I)Z"⟩
abbrev cX9_why : ByteArray := prog_11_method_17_code
def yX9_why : MethodName := ⟨RX9, "why", "(I)I"⟩
abbrev cX9_join : ByteArray := prog_11_method_18_code
def yX9_join : MethodName := ⟨RX9, "join", "(II)V"⟩
abbrev cX9_grow : ByteArray := prog_11_method_19_code
def yX9_grow : MethodName := ⟨RX9, "grow", "(IZ)V"⟩
abbrev cX9_makePlan : ByteArray := prog_11_method_20_code
def yX9_makePlan : MethodName := ⟨RX9, "makePlan", "(I)V"⟩
abbrev cX9_finish : ByteArray := prog_11_method_21_code
def yX9_finish : MethodName := ⟨RX9, "finish", "(I)I"⟩
abbrev cX9_plan : ByteArray := prog_11_method_22_code
def yX9_plan : MethodName := ⟨RX9, "plan", "(I)I"⟩
abbrev cX9_fails : ByteArray := prog_11_method_23_code
def yX9_fails : MethodName := ⟨RX9, "fails", "(I)J"⟩
abbrev cX9_look : ByteArray := prog_11_method_24_code
def yX9_look : MethodName := ⟨RX9, "look", "(II)J"⟩
abbrev cX9_ofEdge : ByteArray := prog_11_method_25_code
def yX9_ofEdge : MethodName := ⟨RX9, "ofEdge", "(III)J"⟩
abbrev cX9_openOf : ByteArray := prog_11_method_26_code
def yX9_openOf : MethodName := ⟨RX9, "openOf", "(II)I"⟩
abbrev cX9_ofBlock : ByteArray := prog_11_method_27_code
def yX9_ofBlock : MethodName := ⟨RX9, "ofBlock", "(III)J"⟩
abbrev cX9_lay : ByteArray := prog_11_method_28_code
def yX9_lay : MethodName := ⟨RX9, "lay", "(I)V"⟩
abbrev cX9_arc : ByteArray := prog_11_method_29_code
def yX9_arc : MethodName := ⟨RX9, "arc", "(II)V"⟩
abbrev cX9_solve : ByteArray := prog_11_method_30_code
def yX9_solve : MethodName := ⟨RX9, "solve", "(II)J"⟩
abbrev cX9_ring : ByteArray := prog_11_method_31_code
def yX9_ring : MethodName := ⟨RX9, "ring", "(III)I"⟩
abbrev cX9_ends : ByteArray := prog_11_method_32_code
def yX9_ends : MethodName := ⟨RX9, "ends", "(IJ)V"⟩
abbrev cX9_comes : ByteArray := prog_11_method_33_code
def yX9_comes : MethodName := ⟨RX9, "comes", "(I)V"⟩
abbrev cX9_allGo : ByteArray := prog_11_method_34_code
def yX9_allGo : MethodName := ⟨RX9, "allGo", "()V"⟩
abbrev cX9_begin : ByteArray := prog_11_method_35_code
def yX9_begin : MethodName := ⟨RX9, "begin", "(I)Z"⟩
abbrev cX9_goes : ByteArray := prog_11_method_36_code
def yX9_goes : MethodName := ⟨RX9, "goes", "(I)V"⟩
abbrev cX9_go : ByteArray := prog_11_method_37_code
def yX9_go : MethodName := ⟨RX9, "go", "(II)I"⟩
abbrev cX9_run : ByteArray := prog_11_method_38_code
def yX9_run : MethodName := ⟨RX9, "run", "(I)I"⟩
abbrev cX9_isWay : ByteArray := prog_11_method_39_code
def yX9_isWay : MethodName := ⟨RX9, "isWay", "(IJ)Z"⟩
abbrev cX9_way : ByteArray := prog_11_method_40_code
def yX9_way : MethodName := ⟨RX9, "way", "(IJI)I"⟩
abbrev cX9_along : ByteArray := prog_11_method_41_code
def yX9_along : MethodName := ⟨RX9, "along", "(IJI)I"⟩
abbrev cX9_table : ByteArray := prog_11_method_42_code
def yX9_table : MethodName := ⟨RX9, "table", "(III)J"⟩
abbrev cX9_told : ByteArray := prog_11_method_43_code
def yX9_told : MethodName := ⟨RX9, "told", "(II)J"⟩
abbrev cX9_blur : ByteArray := prog_11_method_44_code
def yX9_blur : MethodName := ⟨RX9, "blur", "(III)Z"⟩
abbrev cX9_push : ByteArray := prog_11_method_45_code
def yX9_push : MethodName := ⟨RX9, "push", "(IIJI)V"⟩
abbrev cX9_mend : ByteArray := prog_11_method_46_code
def yX9_mend : MethodName := ⟨RX9, "mend", "(I)J"⟩
def RL : String := "CounterPlacerLaw"
abbrev cL_look : ByteArray := method_3_code
def yL_look : MethodName := ⟨RL, "look", "(LCounterPlacer;II[J)I"⟩
abbrev cL_ofEdge : ByteArray := method_4_code
def yL_ofEdge : MethodName := ⟨RL, "ofEdge", "(LCounterPlacer;III[J)I"⟩
abbrev cL_ofBlock : ByteArray := method_5_code
def yL_ofBlock : MethodName := ⟨RL, "ofBlock", "(LCounterPlacer;III[J)I"⟩
abbrev cL_law : ByteArray := code
def yL_law : MethodName := ⟨RL, "law", "([I)Z"⟩
abbrev vwCl : List vw_C := [(RX0, TX0, 5), (RX1, TX1, 4), (RX2, TX2, 9), (RX3, TX3, 13), (RX4, TX4, 4), (RX5, TX5, 12), (RX6, TX6, 9), (RX7, TX7, 11), (RX8, TX8, 4), (RX9, TX9, 56)]
/-- the words that every method has -/
def GW : List Cond := lw_tbl.filter goodWord
/-- the words between nest mates -/
def isNW : Cond → Bool
  | .fieldLinkNest _ _ _ _ _ _ => true
  | .methodLinkNest _ _ _ _ => true
  | _ => false
def NW : List Cond := lw_tbl.filter isNW
theorem gwm {w : Cond} (i : Nat) (h : lw_tbl[i]? = some w) (hg : goodWord w = true) : w ∈ GW := List.mem_filter.mpr ⟨List.mem_of_getElem? h, hg⟩
theorem nwm {w : Cond} (i : Nat) (h : lw_tbl[i]? = some w) (hg : isNW w = true) : w ∈ NW := List.mem_filter.mpr ⟨List.mem_of_getElem? h, hg⟩
end
section
def kd0 : Nat → Nat × Nat := fun k => match k with
  | 0 => (13, 0)
  | 1 => (0, 8)
  | 2 => (0, 8)
  | 3 => (2, 8)
  | 4 => (0, 160)
  | 5 => (0, 160)
  | 6 => (0, 320)
  | 7 => (0, 320)
  | 8 => (0, 320)
  | 9 => (2, 320)
  | 10 => (0, 320)
  | 11 => (2, 320)
  | 12 => (1, 8)
  | 13 => (0, 8)
  | 14 => (1, 8)
  | 15 => (1, 160)
  | 16 => (1, 160)
  | 17 => (1, 320)
  | 18 => (1, 160)
  | 19 => (1, 8)
  | 20 => (1, 8)
  | 21 => (1, 160)
  | 22 => (1, 320)
  | 23 => (1, 320)
  | 24 => (0, 8)
  | 25 => (1, 128)
  | 26 => (1, 128)
  | 31 => (0, 30)
  | 32 => (0, 30)
  | 33 => (1, 30)
  | 35 => (2, 21)
  | 36 => (0, 21)
  | 37 => (2, 40)
  | 38 => (2, 40)
  | 39 => (0, 61)
  | 40 => (0, 61)
  | 41 => (1, 61)
  | 42 => (2, 61)
  | 44 => (0, 21)
  | 45 => (0, 21)
  | 46 => (0, 21)
  | 48 => (0, 320)
  | 49 => (0, 320)
  | 50 => (1, 320)
  | 51 => (0, 320)
  | 53 => (1, 21)
  | 54 => (0, 21)
  | 55 => (0, 21)
  | _ => (0, 0)
def kd1 : Nat → Nat × Nat := fun k => match k with
  | 0 => (12, 0)
  | 1 => (3, 8)
  | 2 => (10, 0)
  | 3 => (5, 0)
  | 4 => (3, 30)
  | 5 => (0, 30)
  | 6 => (1, 30)
  | 7 => (0, 61)
  | 8 => (0, 21)
  | 9 => (0, 21)
  | 10 => (0, 21)
  | 11 => (1, 1)
  | _ => (0, 0)
def kd2 : Nat → Nat × Nat := fun k => match k with
  | 0 => (6, 0)
  | 1 => (7, 0)
  | 2 => (11, 0)
  | 3 => (9, 0)
  | 4 => (4, 0)
  | 5 => (8, 0)
  | 6 => (0, 40)
  | 7 => (1, 20)
  | 8 => (0, 20)
  | 9 => (0, 20)
  | 10 => (0, 20)
  | 11 => (0, 20)
  | 12 => (0, 80)
  | 13 => (0, 61)
  | 14 => (0, 61)
  | 15 => (0, 40)
  | 16 => (2, 40)
  | 17 => (2, 20)
  | 18 => (1, 20)
  | 19 => (1, 20)
  | 20 => (1, 20)
  | 21 => (1, 40)
  | 22 => (1, 40)
  | 23 => (0, 20)
  | 24 => (0, 20)
  | 25 => (0, 20)
  | 26 => (0, 40)
  | 27 => (2, 61)
  | 28 => (0, 21)
  | 29 => (0, 21)
  | 30 => (0, 21)
  | 31 => (2, 21)
  | 32 => (1, 21)
  | 33 => (1, 61)
  | 34 => (1, 40)
  | 35 => (1, 40)
  | 36 => (1, 20)
  | 37 => (1, 16)
  | 38 => (1, 16)
  | _ => (0, 0)
def kd (g k : Nat) : Nat × Nat := match g with
  | 0 => kd0 k
  | 1 => kd1 k
  | _ + 2 => kd2 k
def nmg0 : List Nat := [0, 1, 2, 3, 4, 5, 6, 7, 8, 9, 10, 11, 12, 13, 14, 15, 16, 17, 18, 19, 20, 21, 22, 23, 24, 25, 26, 31, 32, 33, 35, 36, 37, 38, 39, 40, 41, 42, 44, 45, 46, 48, 49, 50, 51, 53, 54, 55]
def nmg1 : List Nat := [0, 1, 2, 3, 4, 5, 6, 7, 8, 9, 10, 11]
def nmg2 : List Nat := [0, 1, 2, 3, 4, 5, 6, 7, 8, 9, 10, 11, 12, 13, 14, 15, 16, 17, 18, 19, 20, 21, 22, 23, 24, 25, 26, 27, 28, 29, 30, 31, 32, 33, 34, 35, 36, 37, 38]
def nms (nr : Nat) : List (Nat × Nat) := nmg0.map (fun k => (0, k)) ++ (nmg1.map (fun k => (1, k)) ++ (List.range nr).flatMap (fun r => nmg2.map (fun k => (r + 2, k))))
def okn (nr g k : Nat) : Bool := match g with
  | 0 => nmg0.contains k
  | 1 => nmg1.contains k
  | r + 2 => decide (r < nr) && nmg2.contains k
def rf1 (k j : Nat) : Nat := match k with
  | 0 => j + 1
  | 2 => j + 4
  | _ => j + 7
def rf2 (k j : Nat) : Nat := match k with
  | 0 => j
  | 1 => j + 8
  | 2 => if j = 0 then 1 else j + 17
  | 3 => if j = 0 then 1 else j + 25
  | 4 => j + 34
  | _ => j + 37
def rfn (g k j : Nat) : Nat × Nat := match g with
  | 0 => (0, j)
  | 1 => (1, rf1 k j)
  | r + 2 => (r + 2, rf2 k j)
def nf (ci : Nat) : Nat := match ci with
  | 0 => 5
  | 1 => 4
  | 2 => 9
  | 3 => 13
  | 4 => 4
  | 5 => 12
  | 6 => 9
  | 7 => 11
  | 8 => 4
  | _ => 56
def ftl (ci : Nat) : List Nat := match ci with
  | 0 => [2, 2, 2, 1, 1]
  | 1 => [2, 2, 2, 2]
  | 2 => [0, 2, 2, 2, 2, 2, 2, 2, 0]
  | 3 => [2, 2, 2, 2, 2, 2, 2, 2, 2, 2, 0, 0, 0]
  | 4 => [2, 2, 0, 1]
  | 5 => [2, 2, 2, 2, 2, 2, 2, 2, 2, 0, 0, 1]
  | 6 => [2, 2, 2, 0, 0, 0, 0, 0, 0]
  | 7 => [2, 2, 2, 2, 2, 2, 2, 2, 2, 0, 1]
  | 8 => [2, 2, 2, 0]
  | _ => [0, 2, 2, 2, 2, 2, 2, 2, 2, 2, 2, 2, 2, 2, 2, 2, 2, 2, 2, 2, 2, 2, 2, 2, 2, 2, 2, 0, 0, 0, 0, 2, 2, 2, 0, 2, 2, 2, 2, 2, 2, 2, 2, 0, 2, 2, 2, 0, 2, 2, 2, 2, 0, 2, 2, 2]
def fty (ci j : Nat) : Nat := (ftl ci).getD j 0
abbrev Hp : Type := (Nat → Nat → Nat → Int32) × (Nat → Nat → Nat → Int64) × (Nat → Nat → Nat → Option Nat)
def gI (H : Hp) (g k i : Nat) : Int32 := H.1 g k i
def gJ (H : Hp) (g k i : Nat) : Int64 := H.2.1 g k i
def gR (H : Hp) (g k i : Nat) : Option Nat := H.2.2 g k i
def sI (H : Hp) (g k i : Nat) (v : Int32) : Hp := (fun a b j => if a = g ∧ b = k ∧ j = i then v else H.1 a b j, H.2)
def sJ (H : Hp) (g k i : Nat) (v : Int64) : Hp := (H.1, (fun a b j => if a = g ∧ b = k ∧ j = i then v else H.2.1 a b j), H.2.2)
def sR (H : Hp) (g k i : Nat) (v : Option Nat) : Hp := (H.1, H.2.1, (fun a b j => if a = g ∧ b = k ∧ j = i then v else H.2.2 a b j))
abbrev kQ : Type := ClassId × ClassId × ClassId × ClassId
abbrev vr (ad : Nat → Nat → Nat) (o : Option Nat) : Value := va_rf (o.map (fun r => ad (r + 2) 0))
def fv (ad : Nat → Nat → Nat) (H : Hp) (g k ci j : Nat) : Value := match fty ci j with
  | 0 => .int (H.1 g k j)
  | 1 => .long (H.2.1 g k j)
  | _ => .ref (ad (rfn g k j).1 (rfn g k j).2)
def fls (ad : Nat → Nat → Nat) (H : Hp) (g k ci : Nat) : List Value := (List.range (nf ci)).map (fun j => fv ad H g k ci j)
def cel (K4 : kQ) (ad : Nat → Nat → Nat) (H : Hp) (g k : Nat) : va_E := match (kd g k).1 with
  | 0 => .inl (K4.1, (kd g k).2, .inl (H.1 g k))
  | 1 => .inl (K4.2.1, (kd g k).2, .inr (.inl (H.2.1 g k)))
  | 2 => .inl (K4.2.2.1, (kd g k).2, .inl (H.1 g k))
  | 3 => .inl (K4.2.2.2, (kd g k).2, .inr (.inr (.inr (.inr (fun i => (H.2.2 g k i).map (fun r => ad (r + 2) 0))))))
  | ci + 4 => .inr (ci, fls ad H g k ci)
def wl (K4 : kQ) (ad : Nat → Nat → Nat) (nr : Nat) (H : Hp) : va_W := (nms nr).map (fun n => (ad n.1 n.2, cel K4 ad H n.1 n.2))
theorem okn_mem {nr g k : Nat} (h : okn nr g k = true) : (g, k) ∈ nms nr := by
  unfold okn at h
  unfold nms
  match g, h with
  | 0, h => exact List.mem_append_left _ (List.mem_map.mpr ⟨k, List.contains_iff_mem.mp h, rfl⟩)
  | 1, h => exact List.mem_append_right _ (List.mem_append_left _ (List.mem_map.mpr ⟨k, List.contains_iff_mem.mp h, rfl⟩))
  | r + 2, h =>
    rw [Bool.and_eq_true] at h
    exact List.mem_append_right _ (List.mem_append_right _ (List.mem_flatMap.mpr ⟨r, List.mem_range.mpr (of_decide_eq_true h.1), List.mem_map.mpr ⟨k, List.contains_iff_mem.mp h.2, rfl⟩⟩))
theorem okR {nr r k : Nat} (hr : r < nr) (hk : nmg2.contains k = true) : okn nr (r + 2) k = true := by
  show (decide (r < nr) && nmg2.contains k) = true
  rw [decide_eq_true hr, hk]; rfl
theorem wl_get {K4 : kQ} {ad : Nat → Nat → Nat} {H : Hp} {nr g k : Nat} (h : okn nr g k = true) : ∃ q0 : Nat, (wl K4 ad nr H)[q0]? = some (ad g k, cel K4 ad H g k) ∧ (nms nr)[q0]? = some (g, k) := by
  obtain ⟨q, hq⟩ := List.getElem?_of_mem (okn_mem h)
  refine ⟨q, ?_, hq⟩
  unfold wl
  rw [List.getElem?_map, hq]
  rfl
theorem wl_set {K4 : kQ} {ad : Nat → Nat → Nat} {H H' : Hp} {nr g k q0 : Nat} {A : Nat → Prop} {c' : va_E} (hD : va_D A (wl K4 ad nr H)) (hq : (nms nr)[q0]? = some (g, k)) (hs : ∀ g' k', (g', k') ≠ (g, k) → cel K4 ad H' g' k' = cel K4 ad H g' k') (hn : cel K4 ad H' g k = c') : (wl K4 ad nr H).set q0 (ad g k, c') = wl K4 ad nr H' := by
  apply List.ext_getElem?
  intro i
  by_cases hi : q0 = i
  · subst hi
    have hlt : q0 < (wl K4 ad nr H).length := by
      unfold wl
      rw [List.length_map]
      exact (List.getElem?_eq_some_iff.mp hq).1
    rw [List.getElem?_set_self hlt]
    unfold wl
    rw [List.getElem?_map, hq]
    show _ = some (ad g k, cel K4 ad H' g k)
    rw [hn]
  · rw [List.getElem?_set_ne hi]
    unfold wl
    rw [List.getElem?_map, List.getElem?_map]
    cases hj : (nms nr)[i]? with
    | none => rfl
    | some n =>
      obtain ⟨g', k'⟩ := n
      show some (ad g' k', cel K4 ad H g' k') = some (ad g' k', cel K4 ad H' g' k')
      by_cases hc : (g', k') = (g, k)
      · exfalso
        apply hi
        refine hD.1 q0 i (ad g k, cel K4 ad H g k) (ad g k, cel K4 ad H g k) ?_ ?_ rfl
        · unfold wl; rw [List.getElem?_map, hq]; rfl
        · unfold wl; rw [List.getElem?_map, hj, hc]; rfl
      · rw [hs g' k' hc]
theorem cel_sI {K4 : kQ} {ad : Nat → Nat → Nat} {H : Hp} {g k i : Nat} {v : Int32} : ∀ g' k', (g', k') ≠ (g, k) → cel K4 ad (sI H g k i v) g' k' = cel K4 ad H g' k' := by
  intro g' k' h
  have h1 : (sI H g k i v).1 g' k' = H.1 g' k' := by
    funext j
    show (if g' = g ∧ k' = k ∧ j = i then v else H.1 g' k' j) = _
    rw [if_neg]
    intro q
    exact h (by rw [q.1, q.2.1])
  unfold cel fls fv
  rw [h1]
  rfl
theorem cel_sJ {K4 : kQ} {ad : Nat → Nat → Nat} {H : Hp} {g k i : Nat} {v : Int64} : ∀ g' k', (g', k') ≠ (g, k) → cel K4 ad (sJ H g k i v) g' k' = cel K4 ad H g' k' := by
  intro g' k' h
  have h1 : (sJ H g k i v).2.1 g' k' = H.2.1 g' k' := by
    funext j
    show (if g' = g ∧ k' = k ∧ j = i then v else H.2.1 g' k' j) = _
    rw [if_neg]
    intro q
    exact h (by rw [q.1, q.2.1])
  unfold cel fls fv
  rw [h1]
  rfl
theorem cel_sR {K4 : kQ} {ad : Nat → Nat → Nat} {H : Hp} {g k i : Nat} {v : Option Nat} : ∀ g' k', (g', k') ≠ (g, k) → cel K4 ad (sR H g k i v) g' k' = cel K4 ad H g' k' := by
  intro g' k' h
  have h1 : (sR H g k i v).2.2 g' k' = H.2.2 g' k' := by
    funext j
    show (if g' = g ∧ k' = k ∧ j = i then v else H.2.2 g' k' j) = _
    rw [if_neg]
    intro q
    exact h (by rw [q.1, q.2.1])
  unfold cel fls fv
  rw [h1]
  rfl
theorem sI_row (H : Hp) (g k i : Nat) (v : Int32) : (sI H g k i v).1 g k = upd (H.1 g k) i v := by
  funext j
  show (if g = g ∧ k = k ∧ j = i then v else H.1 g k j) = if j = i then v else H.1 g k j
  simp
theorem sJ_row (H : Hp) (g k i : Nat) (v : Int64) : (sJ H g k i v).2.1 g k = vp_updL (H.2.1 g k) i v := by
  funext j
  show (if g = g ∧ k = k ∧ j = i then v else H.2.1 g k j) = if j = i then v else H.2.1 g k j
  simp
theorem rng_set (n : Nat) (F F' : Nat → Value) (j : Nat) (v : Value) (h1 : F' j = v) (h2 : ∀ i, i ≠ j → F' i = F i) : ((List.range n).map F).set j v = (List.range n).map F' := by
  apply List.ext_getElem?
  intro i
  by_cases hi : j = i
  · subst hi
    by_cases hl : j < n
    · rw [List.getElem?_set_self (by simpa using hl), List.getElem?_map, List.getElem?_range hl]
      show some v = some (F' j)
      rw [h1]
    · rw [List.getElem?_eq_none (by simp; omega), List.getElem?_eq_none (by simp; omega)]
  · rw [List.getElem?_set_ne hi, List.getElem?_map, List.getElem?_map]
    cases hj : (List.range n)[i]? with
    | none => rfl
    | some q =>
      have hq : q = i := by
        have := List.getElem?_eq_some_iff.mp hj
        obtain ⟨h3, h4⟩ := this
        rw [List.getElem_range] at h4
        exact h4.symm
      subst hq
      show some (F q) = some (F' q)
      rw [h2 q (fun h => hi h.symm)]
abbrev tys4 (K4 : kQ) : List (ClassId × FieldType) := [(K4.1, .int), (K4.2.1, .long), (K4.2.2.1, .boolean), (K4.2.2.2, .object "CounterPlacer$Routine")]
def Cx (p : Program) (s : State) (m : MethodId) (args : Array Value) (c : Code) (A : Nat → Prop) (H0 : Heap) (D : va_G) (K4 : kQ) (nL : Nat) (own : String) (cc : ByteArray) : Prop :=
  p.tables.exec = Jvm.exec ∧ c.code = cc ∧ c.maxLocals = nL ∧ s.vm.findClass own = some m.cls ∧ (∀ w ∈ GW, w.before args s = true) ∧ va_K D vwCl (tys4 K4) s ∧ (∀ w ∈ NW, va_Nw w s) ∧ (∀ q, H0.size ≤ q → A q)
def V' (p : Program) (l : Launch) (e : Env) (R : Room) (s : State) (m : MethodId) (args : Array Value) (below : List Frame) (meth : Method) (c : Code) (A : Nat → Prop) (H0 : Heap) (Q : State → Prop) (D : va_G) (K4 : kQ) (ad : Nat → Nat → Nat) (nr nL cs sl : Nat) (pc : Nat) (lv : List (Nat × Value)) (st : List Value) (H : Hp) : Prop :=
  ∀ (Hh : Heap) (locs : List Loc) (ls : Array Slot), va_P D vwCl (wl K4 ad nr H) Hh → va_D A (wl K4 ad nr H) → va_S A H0 Hh locs → lv_has ls nL lv → W p l e R s m args below meth c Hh locs cs sl Q (F0 m pc ls st)
abbrev V (p : Program) (l : Launch) (e : Env) (R : Room) (s : State) (m : MethodId) (args : Array Value) (below : List Frame) (meth : Method) (c : Code) (A : Nat → Prop) (H0 : Heap) (Q : State → Prop) (D : va_G) (K4 : kQ) (ad : Nat → Nat → Nat) (nr nL : Nat) (pc : Nat) (lv : List (Nat × Value)) (st : List Value) (H : Hp) : Prop := V' p l e R s m args below meth c A H0 Q D K4 ad nr nL 0 0 pc lv st H
/-- a field's link: class number, slot -/
def FL (own : String) (idx ci j : Nat) : Prop := ∃ (C : String) (T : u_T) (N : Nat), vwCl[ci]? = some (C, T, N) ∧ j < N ∧ j < nf ci ∧ (∀ w ∈ u_ws C T N, w ∈ GW) ∧ (Cond.fieldLink own idx (T j).1 (T j).2.1 (T j).2.2.1 ∈ GW ∨ ∃ host, Cond.fieldLinkNest own idx (T j).1 (T j).2.1 (T j).2.2.1 host ∈ NW)
/-- .. of one that is written -/
def FW (own : String) (idx ci j : Nat) (ty : FieldType) : Prop := ∃ (C : String) (T : u_T) (N : Nat) (ty0 : Nat → FieldType), vwCl[ci]? = some (C, T, N) ∧ j < N ∧ j < nf ci ∧ (∀ w ∈ u_ws C T N, w ∈ GW) ∧ (Cond.fieldLink own idx (T j).1 (T j).2.1 (T j).2.2.1 ∈ GW ∨ ∃ host, Cond.fieldLinkNest own idx (T j).1 (T j).2.1 (T j).2.2.1 host ∈ NW) ∧ (∀ k, k < N → parseFieldDescriptor (T k).2.2.1 = some (ty0 k)) ∧ (∀ a, a < N → ∀ b, b < N → a ≠ b → (T a).2.1 ≠ (T b).2.1) ∧ (T j).2.2.2 = false ∧ parseFieldDescriptor (T j).2.2.1 = some ty
/-- the parts of a method's function -/
def gd {α : Type} (i : Int32) (n : Nat) (k : Option α) : Option α := if ¬ i < 0 ∧ i.toNatClampNeg < n then k else none
theorem gd_some {α : Type} {i : Int32} {n : Nat} {k : Option α} {r : α} (h : gd i n k = some r) : vp_in i n ∧ k = some r := by
  unfold gd at h
  split at h
  · rename_i q
    exact ⟨fun u => u.elim q.1 (fun v => absurd q.2 (Nat.not_lt.mpr v)), h⟩
  · cases h
def gb {α : Type} (b : Bool) (k : Option α) : Option α := if b = true then k else none
theorem gb_some {α : Type} {b : Bool} {k : Option α} {r : α} (h : gb b k = some r) : b = true ∧ k = some r := by
  unfold gb at h
  split at h
  · exact ⟨by assumption, h⟩
  · cases h
def bnd {α β : Type} (o : Option (α × Hp)) (f : α → Hp → Option β) : Option β := match o with
  | none => none
  | some (a, h) => f a h
theorem bnd_some {α β : Type} {o : Option (α × Hp)} {f : α → Hp → Option β} {r : β} (h : bnd o f = some r) : ∃ a h', o = some (a, h') ∧ f a h' = some r := by
  unfold bnd at h
  split at h
  · cases h
  · exact ⟨_, _, rfl, h⟩
def nn {β : Type} (nr : Nat) (o : Option Nat) (f : Nat → Option β) : Option β := match o with
  | none => none
  | some r => gb (decide (r < nr)) (f r)
theorem nn_some {β : Type} {nr : Nat} {o : Option Nat} {f : Nat → Option β} {x : β} (h : nn nr o f = some x) : ∃ r, o = some r ∧ r < nr ∧ f r = some x := by
  unfold nn at h
  split at h
  · cases h
  · obtain ⟨a, b⟩ := gb_some h
    exact ⟨_, rfl, of_decide_eq_true a, b⟩
def nz {β : Type} (nr : Nat) (o : Option Nat) (k0 : Option β) (f : Nat → Option β) : Option β := match o with
  | none => k0
  | some r => gb (decide (r < nr)) (f r)
def FU : Nat := 1000000000

section
variable {p : Program} {l : Launch} {e : Env} {R : Room} {s : State} {m : MethodId} {args : Array Value} {below : List Frame} {meth : Method} {c : Code} {A : Nat → Prop} {H0 : Heap} {Q : State → Prop} {D : va_G} {K4 : kQ} {ad : Nat → Nat → Nat} {nr nL cs sl : Nat} {own : String} {cc : ByteArray} {pc : Nat} {lv lv' : List (Nat × Value)} {st : List Value} {H : Hp}
theorem V_iconst (hC : Cx p s m args c A H0 D K4 nL own cc) {n : Int} {v : Int32} (hdg : decode cc pc = .ok (.iconst n, 1)) (hv : Int32.ofInt n = v) (kk : V' p l e R s m args below meth c A H0 Q D K4 ad nr nL cs sl (pc + 1) lv (.int v :: st) H) : V' p l e R s m args below meth c A H0 Q D K4 ad nr nL cs sl pc lv (st) H :=
  fun Hh locs ls hP hD hS hl => lv_iconst hC.1 hC.2.1 hdg hv (kk Hh locs ls hP hD hS hl)
theorem V_bipush (hC : Cx p s m args c A H0 D K4 nL own cc) {n : Int} {v : Int32} (hdg : decode cc pc = .ok (.bipush n, 2)) (hv : (Int8.ofInt n).toInt32 = v) (kk : V' p l e R s m args below meth c A H0 Q D K4 ad nr nL cs sl (pc + 2) lv (.int v :: st) H) : V' p l e R s m args below meth c A H0 Q D K4 ad nr nL cs sl pc lv (st) H :=
  fun Hh locs ls hP hD hS hl => lv_bipush hC.1 hC.2.1 hdg hv (kk Hh locs ls hP hD hS hl)
theorem V_sipush (hC : Cx p s m args c A H0 D K4 nL own cc) {n : Int} {v : Int32} (hdg : decode cc pc = .ok (.sipush n, 3)) (hv : (Int16.ofInt n).toInt32 = v) (kk : V' p l e R s m args below meth c A H0 Q D K4 ad nr nL cs sl (pc + 3) lv (.int v :: st) H) : V' p l e R s m args below meth c A H0 Q D K4 ad nr nL cs sl pc lv (st) H :=
  fun Hh locs ls hP hD hS hl => lv_sipush hC.1 hC.2.1 hdg hv (kk Hh locs ls hP hD hS hl)
theorem V_lconst (hC : Cx p s m args c A H0 D K4 nL own cc) {n : Fin 2} {v : Int64} (hdg : decode cc pc = .ok (.lconst n, 1)) (hv : Int64.ofNat (n : Nat) = v) (kk : V' p l e R s m args below meth c A H0 Q D K4 ad nr nL cs sl (pc + 1) lv (.long v :: st) H) : V' p l e R s m args below meth c A H0 Q D K4 ad nr nL cs sl pc lv (st) H :=
  fun Hh locs ls hP hD hS hl => lv_lconst hC.1 hC.2.1 hdg hv (kk Hh locs ls hP hD hS hl)
theorem V_ldc (hC : Cx p s m args c A H0 D K4 nL own cc) {n : Nat} {v : Int32} (hdg : decode cc pc = .ok (.ldc n, 2)) (hw : Cond.constant own n v ∈ GW) (kk : V' p l e R s m args below meth c A H0 Q D K4 ad nr nL cs sl (pc + 2) lv (.int v :: st) H) : V' p l e R s m args below meth c A H0 Q D K4 ad nr nL cs sl pc lv (st) H :=
  fun Hh locs ls hP hD hS hl => lv_ldc hC.1 hC.2.1 hC.2.2.2.1 (hC.2.2.2.2.1 _ hw) hdg (kk Hh locs ls hP hD hS hl)
theorem V_ldc2 (hC : Cx p s m args c A H0 D K4 nL own cc) {n : Nat} {v : Int64} (hdg : decode cc pc = .ok (.ldc2_w n, 3)) (hw : Cond.constantLong own n v ∈ GW) (kk : V' p l e R s m args below meth c A H0 Q D K4 ad nr nL cs sl (pc + 3) lv (.long v :: st) H) : V' p l e R s m args below meth c A H0 Q D K4 ad nr nL cs sl pc lv (st) H :=
  fun Hh locs ls hP hD hS hl => lv_ldc2 hC.1 hC.2.1 hC.2.2.2.1 (hC.2.2.2.2.1 _ hw) hdg (kk Hh locs ls hP hD hS hl)
theorem V_iload_n (hC : Cx p s m args c A H0 D K4 nL own cc) {i : Fin 4} {x : Int32} (k : Nat) (hdg : decode cc pc = .ok (.iload_n i, 1)) (hv : lv[k]? = some ((i : Nat), .int x)) (kk : V' p l e R s m args below meth c A H0 Q D K4 ad nr nL cs sl (pc + 1) lv (.int x :: st) H) : V' p l e R s m args below meth c A H0 Q D K4 ad nr nL cs sl pc lv (st) H :=
  fun Hh locs ls hP hD hS hl => lv_iload_n hC.1 hC.2.1 hdg rfl (lv_at hl k hv) (kk Hh locs ls hP hD hS hl)
theorem V_iload (hC : Cx p s m args c A H0 D K4 nL own cc) {i : Nat} {x : Int32} (k : Nat) (hdg : decode cc pc = .ok (.iload i, 2)) (hv : lv[k]? = some (i, .int x)) (kk : V' p l e R s m args below meth c A H0 Q D K4 ad nr nL cs sl (pc + 2) lv (.int x :: st) H) : V' p l e R s m args below meth c A H0 Q D K4 ad nr nL cs sl pc lv (st) H :=
  fun Hh locs ls hP hD hS hl => lv_iload hC.1 hC.2.1 hdg (lv_at hl k hv) (kk Hh locs ls hP hD hS hl)
theorem V_istore_n (hC : Cx p s m args c A H0 D K4 nL own cc) {i : Fin 4} {x : Int32} (hdg : decode cc pc = .ok (.istore_n i, 1)) (hn : (i : Nat) < nL) (hl' : ((i : Nat), Value.int x) :: lv.filter (fun q => !(q.1 == (i : Nat)) && !(q.1 + 1 == (i : Nat) && q.2.category == 2)) = lv') (kk : V' p l e R s m args below meth c A H0 Q D K4 ad nr nL cs sl (pc + 1) lv' st H) : V' p l e R s m args below meth c A H0 Q D K4 ad nr nL cs sl pc lv (.int x :: st) H :=
  fun Hh locs ls hP hD hS hl => lv_istore_n hC.1 hC.2.1 hdg rfl hl hn hl' (fun ls' hl2 => kk Hh locs ls' hP hD hS hl2)
theorem V_istore (hC : Cx p s m args c A H0 D K4 nL own cc) {i : Nat} {x : Int32} (hdg : decode cc pc = .ok (.istore i, 2)) (hn : (i : Nat) < nL) (hl' : ((i : Nat), Value.int x) :: lv.filter (fun q => !(q.1 == (i : Nat)) && !(q.1 + 1 == (i : Nat) && q.2.category == 2)) = lv') (kk : V' p l e R s m args below meth c A H0 Q D K4 ad nr nL cs sl (pc + 2) lv' st H) : V' p l e R s m args below meth c A H0 Q D K4 ad nr nL cs sl pc lv (.int x :: st) H :=
  fun Hh locs ls hP hD hS hl => lv_istore hC.1 hC.2.1 hdg hl hn hl' (fun ls' hl2 => kk Hh locs ls' hP hD hS hl2)
theorem V_lload_n (hC : Cx p s m args c A H0 D K4 nL own cc) {i : Fin 4} {x : Int64} (k : Nat) (hdg : decode cc pc = .ok (.lload_n i, 1)) (hv : lv[k]? = some ((i : Nat), .long x)) (kk : V' p l e R s m args below meth c A H0 Q D K4 ad nr nL cs sl (pc + 1) lv (.long x :: st) H) : V' p l e R s m args below meth c A H0 Q D K4 ad nr nL cs sl pc lv (st) H :=
  fun Hh locs ls hP hD hS hl => lv_lload_n hC.1 hC.2.1 hdg rfl (lv_at hl k hv) (kk Hh locs ls hP hD hS hl)
theorem V_lload (hC : Cx p s m args c A H0 D K4 nL own cc) {i : Nat} {x : Int64} (k : Nat) (hdg : decode cc pc = .ok (.lload i, 2)) (hv : lv[k]? = some (i, .long x)) (kk : V' p l e R s m args below meth c A H0 Q D K4 ad nr nL cs sl (pc + 2) lv (.long x :: st) H) : V' p l e R s m args below meth c A H0 Q D K4 ad nr nL cs sl pc lv (st) H :=
  fun Hh locs ls hP hD hS hl => lv_lload hC.1 hC.2.1 hdg (lv_at hl k hv) (kk Hh locs ls hP hD hS hl)
theorem V_lstore_n (hC : Cx p s m args c A H0 D K4 nL own cc) {i : Fin 4} {x : Int64} (hdg : decode cc pc = .ok (.lstore_n i, 1)) (hn : (i : Nat) + 1 < nL) (hl' : ((i : Nat), Value.long x) :: lv.filter (fun q => !(q.1 == (i : Nat)) && (!(q.1 == (i : Nat) + 1) && !(q.1 + 1 == (i : Nat) && q.2.category == 2))) = lv') (kk : V' p l e R s m args below meth c A H0 Q D K4 ad nr nL cs sl (pc + 1) lv' st H) : V' p l e R s m args below meth c A H0 Q D K4 ad nr nL cs sl pc lv (.long x :: st) H :=
  fun Hh locs ls hP hD hS hl => lv_lstore_n hC.1 hC.2.1 hdg rfl hl hn hl' (fun ls' hl2 => kk Hh locs ls' hP hD hS hl2)
theorem V_lstore (hC : Cx p s m args c A H0 D K4 nL own cc) {i : Nat} {x : Int64} (hdg : decode cc pc = .ok (.lstore i, 2)) (hn : (i : Nat) + 1 < nL) (hl' : ((i : Nat), Value.long x) :: lv.filter (fun q => !(q.1 == (i : Nat)) && (!(q.1 == (i : Nat) + 1) && !(q.1 + 1 == (i : Nat) && q.2.category == 2))) = lv') (kk : V' p l e R s m args below meth c A H0 Q D K4 ad nr nL cs sl (pc + 2) lv' st H) : V' p l e R s m args below meth c A H0 Q D K4 ad nr nL cs sl pc lv (.long x :: st) H :=
  fun Hh locs ls hP hD hS hl => lv_lstore hC.1 hC.2.1 hdg hl hn hl' (fun ls' hl2 => kk Hh locs ls' hP hD hS hl2)
theorem V_aload_n (hC : Cx p s m args c A H0 D K4 nL own cc) {i : Fin 4} {x : Nat} (k : Nat) (hdg : decode cc pc = .ok (.aload_n i, 1)) (hv : lv[k]? = some ((i : Nat), .ref x)) (kk : V' p l e R s m args below meth c A H0 Q D K4 ad nr nL cs sl (pc + 1) lv (.ref x :: st) H) : V' p l e R s m args below meth c A H0 Q D K4 ad nr nL cs sl pc lv (st) H :=
  fun Hh locs ls hP hD hS hl => lv_aload_n hC.1 hC.2.1 hdg rfl (lv_at hl k hv) (kk Hh locs ls hP hD hS hl)
theorem V_aload (hC : Cx p s m args c A H0 D K4 nL own cc) {i : Nat} {x : Nat} (k : Nat) (hdg : decode cc pc = .ok (.aload i, 2)) (hv : lv[k]? = some (i, .ref x)) (kk : V' p l e R s m args below meth c A H0 Q D K4 ad nr nL cs sl (pc + 2) lv (.ref x :: st) H) : V' p l e R s m args below meth c A H0 Q D K4 ad nr nL cs sl pc lv (st) H :=
  fun Hh locs ls hP hD hS hl => lv_aload hC.1 hC.2.1 hdg (lv_at hl k hv) (kk Hh locs ls hP hD hS hl)
theorem V_astore_n (hC : Cx p s m args c A H0 D K4 nL own cc) {i : Fin 4} {x : Nat} (hdg : decode cc pc = .ok (.astore_n i, 1)) (hn : (i : Nat) < nL) (hl' : ((i : Nat), Value.ref x) :: lv.filter (fun q => !(q.1 == (i : Nat)) && !(q.1 + 1 == (i : Nat) && q.2.category == 2)) = lv') (kk : V' p l e R s m args below meth c A H0 Q D K4 ad nr nL cs sl (pc + 1) lv' st H) : V' p l e R s m args below meth c A H0 Q D K4 ad nr nL cs sl pc lv (.ref x :: st) H :=
  fun Hh locs ls hP hD hS hl => lv_astore_n hC.1 hC.2.1 hdg rfl hl hn hl' (fun ls' hl2 => kk Hh locs ls' hP hD hS hl2)
theorem V_astore (hC : Cx p s m args c A H0 D K4 nL own cc) {i : Nat} {x : Nat} (hdg : decode cc pc = .ok (.astore i, 2)) (hn : (i : Nat) < nL) (hl' : ((i : Nat), Value.ref x) :: lv.filter (fun q => !(q.1 == (i : Nat)) && !(q.1 + 1 == (i : Nat) && q.2.category == 2)) = lv') (kk : V' p l e R s m args below meth c A H0 Q D K4 ad nr nL cs sl (pc + 2) lv' st H) : V' p l e R s m args below meth c A H0 Q D K4 ad nr nL cs sl pc lv (.ref x :: st) H :=
  fun Hh locs ls hP hD hS hl => lv_astore hC.1 hC.2.1 hdg hl hn hl' (fun ls' hl2 => kk Hh locs ls' hP hD hS hl2)
theorem V_iinc (hC : Cx p s m args c A H0 D K4 nL own cc) {i : Nat} {n : Int} {x v : Int32} (k : Nat) (hdg : decode cc pc = .ok (.iinc i n, 3)) (hv : lv[k]? = some (i, .int x)) (hx : x + Int32.ofInt n = v) (hn : i < nL) (hl' : (i, Value.int v) :: lv.filter (fun q => !(q.1 == i) && !(q.1 + 1 == i && q.2.category == 2)) = lv') (kk : V' p l e R s m args below meth c A H0 Q D K4 ad nr nL cs sl (pc + 3) lv' st H) : V' p l e R s m args below meth c A H0 Q D K4 ad nr nL cs sl pc lv st H :=
  fun Hh locs ls hP hD hS hl => lv_iinc hC.1 hC.2.1 hdg hl hv hx hn hl' (fun ls' hl2 => kk Hh locs ls' hP hD hS hl2)
theorem V_iadd (hC : Cx p s m args c A H0 D K4 nL own cc) {x y : Int32} (hdg : decode cc pc = .ok (.iadd, 1)) (kk : V' p l e R s m args below meth c A H0 Q D K4 ad nr nL cs sl (pc + 1) lv (.int (x + y) :: st) H) : V' p l e R s m args below meth c A H0 Q D K4 ad nr nL cs sl pc lv (.int y :: .int x :: st) H :=
  fun Hh locs ls hP hD hS hl => lv_iadd hC.1 hC.2.1 hdg (kk Hh locs ls hP hD hS hl)
theorem V_isub (hC : Cx p s m args c A H0 D K4 nL own cc) {x y : Int32} (hdg : decode cc pc = .ok (.isub, 1)) (kk : V' p l e R s m args below meth c A H0 Q D K4 ad nr nL cs sl (pc + 1) lv (.int (x - y) :: st) H) : V' p l e R s m args below meth c A H0 Q D K4 ad nr nL cs sl pc lv (.int y :: .int x :: st) H :=
  fun Hh locs ls hP hD hS hl => lv_isub hC.1 hC.2.1 hdg (kk Hh locs ls hP hD hS hl)
theorem V_imul (hC : Cx p s m args c A H0 D K4 nL own cc) {x y : Int32} (hdg : decode cc pc = .ok (.imul, 1)) (kk : V' p l e R s m args below meth c A H0 Q D K4 ad nr nL cs sl (pc + 1) lv (.int (x * y) :: st) H) : V' p l e R s m args below meth c A H0 Q D K4 ad nr nL cs sl pc lv (.int y :: .int x :: st) H :=
  fun Hh locs ls hP hD hS hl => lv_imul hC.1 hC.2.1 hdg (kk Hh locs ls hP hD hS hl)
theorem V_iand (hC : Cx p s m args c A H0 D K4 nL own cc) {x y : Int32} (hdg : decode cc pc = .ok (.iand, 1)) (kk : V' p l e R s m args below meth c A H0 Q D K4 ad nr nL cs sl (pc + 1) lv (.int (x &&& y) :: st) H) : V' p l e R s m args below meth c A H0 Q D K4 ad nr nL cs sl pc lv (.int y :: .int x :: st) H :=
  fun Hh locs ls hP hD hS hl => lv_iand hC.1 hC.2.1 hdg (kk Hh locs ls hP hD hS hl)
theorem V_ior (hC : Cx p s m args c A H0 D K4 nL own cc) {x y : Int32} (hdg : decode cc pc = .ok (.ior, 1)) (kk : V' p l e R s m args below meth c A H0 Q D K4 ad nr nL cs sl (pc + 1) lv (.int (x ||| y) :: st) H) : V' p l e R s m args below meth c A H0 Q D K4 ad nr nL cs sl pc lv (.int y :: .int x :: st) H :=
  fun Hh locs ls hP hD hS hl => lv_ior hC.1 hC.2.1 hdg (kk Hh locs ls hP hD hS hl)
theorem V_ishr (hC : Cx p s m args c A H0 D K4 nL own cc) {x y : Int32} (hdg : decode cc pc = .ok (.ishr, 1)) (kk : V' p l e R s m args below meth c A H0 Q D K4 ad nr nL cs sl (pc + 1) lv (.int (x >>> (y &&& 31)) :: st) H) : V' p l e R s m args below meth c A H0 Q D K4 ad nr nL cs sl pc lv (.int y :: .int x :: st) H :=
  fun Hh locs ls hP hD hS hl => lv_ishr hC.1 hC.2.1 hdg (kk Hh locs ls hP hD hS hl)
theorem V_irem (hC : Cx p s m args c A H0 D K4 nL own cc) {x y : Int32} (hdg : decode cc pc = .ok (.irem, 1)) (hz : ¬ y = 0) (kk : V' p l e R s m args below meth c A H0 Q D K4 ad nr nL cs sl (pc + 1) lv (.int (x - x / y * y) :: st) H) : V' p l e R s m args below meth c A H0 Q D K4 ad nr nL cs sl pc lv (.int y :: .int x :: st) H :=
  fun Hh locs ls hP hD hS hl => lv_irem hC.1 hC.2.1 hdg hz (kk Hh locs ls hP hD hS hl)
theorem V_ineg (hC : Cx p s m args c A H0 D K4 nL own cc) {x : Int32} (hdg : decode cc pc = .ok (.ineg, 1)) (kk : V' p l e R s m args below meth c A H0 Q D K4 ad nr nL cs sl (pc + 1) lv (.int (-x) :: st) H) : V' p l e R s m args below meth c A H0 Q D K4 ad nr nL cs sl pc lv (.int x :: st) H :=
  fun Hh locs ls hP hD hS hl => lv_ineg hC.1 hC.2.1 hdg (kk Hh locs ls hP hD hS hl)
theorem V_ladd (hC : Cx p s m args c A H0 D K4 nL own cc) {x y : Int64} (hdg : decode cc pc = .ok (.ladd, 1)) (kk : V' p l e R s m args below meth c A H0 Q D K4 ad nr nL cs sl (pc + 1) lv (.long (x + y) :: st) H) : V' p l e R s m args below meth c A H0 Q D K4 ad nr nL cs sl pc lv (.long y :: .long x :: st) H :=
  fun Hh locs ls hP hD hS hl => lv_ladd hC.1 hC.2.1 hdg (kk Hh locs ls hP hD hS hl)
theorem V_lsub (hC : Cx p s m args c A H0 D K4 nL own cc) {x y : Int64} (hdg : decode cc pc = .ok (.lsub, 1)) (kk : V' p l e R s m args below meth c A H0 Q D K4 ad nr nL cs sl (pc + 1) lv (.long (x - y) :: st) H) : V' p l e R s m args below meth c A H0 Q D K4 ad nr nL cs sl pc lv (.long y :: .long x :: st) H :=
  fun Hh locs ls hP hD hS hl => lv_lsub hC.1 hC.2.1 hdg (kk Hh locs ls hP hD hS hl)
theorem V_lmul (hC : Cx p s m args c A H0 D K4 nL own cc) {x y : Int64} (hdg : decode cc pc = .ok (.lmul, 1)) (kk : V' p l e R s m args below meth c A H0 Q D K4 ad nr nL cs sl (pc + 1) lv (.long (x * y) :: st) H) : V' p l e R s m args below meth c A H0 Q D K4 ad nr nL cs sl pc lv (.long y :: .long x :: st) H :=
  fun Hh locs ls hP hD hS hl => lv_lmul hC.1 hC.2.1 hdg (kk Hh locs ls hP hD hS hl)
theorem V_land (hC : Cx p s m args c A H0 D K4 nL own cc) {x y : Int64} (hdg : decode cc pc = .ok (.land, 1)) (kk : V' p l e R s m args below meth c A H0 Q D K4 ad nr nL cs sl (pc + 1) lv (.long (x &&& y) :: st) H) : V' p l e R s m args below meth c A H0 Q D K4 ad nr nL cs sl pc lv (.long y :: .long x :: st) H :=
  fun Hh locs ls hP hD hS hl => lv_land hC.1 hC.2.1 hdg (kk Hh locs ls hP hD hS hl)
theorem V_lor (hC : Cx p s m args c A H0 D K4 nL own cc) {x y : Int64} (hdg : decode cc pc = .ok (.lor, 1)) (kk : V' p l e R s m args below meth c A H0 Q D K4 ad nr nL cs sl (pc + 1) lv (.long (x ||| y) :: st) H) : V' p l e R s m args below meth c A H0 Q D K4 ad nr nL cs sl pc lv (.long y :: .long x :: st) H :=
  fun Hh locs ls hP hD hS hl => lv_lor hC.1 hC.2.1 hdg (kk Hh locs ls hP hD hS hl)
theorem V_lneg (hC : Cx p s m args c A H0 D K4 nL own cc) {x : Int64} (hdg : decode cc pc = .ok (.lneg, 1)) (kk : V' p l e R s m args below meth c A H0 Q D K4 ad nr nL cs sl (pc + 1) lv (.long (-x) :: st) H) : V' p l e R s m args below meth c A H0 Q D K4 ad nr nL cs sl pc lv (.long x :: st) H :=
  fun Hh locs ls hP hD hS hl => lv_lneg hC.1 hC.2.1 hdg (kk Hh locs ls hP hD hS hl)
theorem V_i2l (hC : Cx p s m args c A H0 D K4 nL own cc) {x : Int32} (hdg : decode cc pc = .ok (.i2l, 1)) (kk : V' p l e R s m args below meth c A H0 Q D K4 ad nr nL cs sl (pc + 1) lv (.long x.toInt64 :: st) H) : V' p l e R s m args below meth c A H0 Q D K4 ad nr nL cs sl pc lv (.int x :: st) H :=
  fun Hh locs ls hP hD hS hl => lv_i2l hC.1 hC.2.1 hdg rfl (kk Hh locs ls hP hD hS hl)
theorem V_lcmp (hC : Cx p s m args c A H0 D K4 nL own cc) {x y : Int64} (hdg : decode cc pc = .ok (.lcmp, 1)) (kk : V' p l e R s m args below meth c A H0 Q D K4 ad nr nL cs sl (pc + 1) lv (.int (lg_cmp x y) :: st) H) : V' p l e R s m args below meth c A H0 Q D K4 ad nr nL cs sl pc lv (.long y :: .long x :: st) H :=
  fun Hh locs ls hP hD hS hl => W.lcmp hC.1 hC.2.1 hdg (kk Hh locs ls hP hD hS hl)
theorem V_dup (hC : Cx p s m args c A H0 D K4 nL own cc) {v : Value} (hdg : decode cc pc = .ok (.dup, 1)) (hc : v.category = 1) (kk : V' p l e R s m args below meth c A H0 Q D K4 ad nr nL cs sl (pc + 1) lv (v :: v :: st) H) : V' p l e R s m args below meth c A H0 Q D K4 ad nr nL cs sl pc lv (v :: st) H :=
  fun Hh locs ls hP hD hS hl => lv_dup hC.1 hC.2.1 hdg hc (kk Hh locs ls hP hD hS hl)
theorem V_pop (hC : Cx p s m args c A H0 D K4 nL own cc) {v : Value} (hdg : decode cc pc = .ok (.pop, 1)) (hc : v.category = 1) (kk : V' p l e R s m args below meth c A H0 Q D K4 ad nr nL cs sl (pc + 1) lv (st) H) : V' p l e R s m args below meth c A H0 Q D K4 ad nr nL cs sl pc lv (v :: st) H :=
  fun Hh locs ls hP hD hS hl => lv_pop hC.1 hC.2.1 hdg hc (kk Hh locs ls hP hD hS hl)
theorem V_dup2 (hC : Cx p s m args c A H0 D K4 nL own cc) {u v : Value} (hdg : decode cc pc = .ok (.dup2, 1)) (hu : u.category = 1) (hv : v.category = 1) (kk : V' p l e R s m args below meth c A H0 Q D K4 ad nr nL cs sl (pc + 1) lv (u :: v :: u :: v :: st) H) : V' p l e R s m args below meth c A H0 Q D K4 ad nr nL cs sl pc lv (u :: v :: st) H :=
  fun Hh locs ls hP hD hS hl => lv_dup2_11 hC.1 hC.2.1 hdg hu hv (kk Hh locs ls hP hD hS hl)
theorem V_if_eq (hC : Cx p s m args c A H0 D K4 nL own cc) {x : Int32} {off : Int} {tgt : Nat} (hdg : decode cc pc = .ok (.ifCond .eq off, 3)) (ht : (pc : Int) + off = (tgt : Int)) (kt : x = 0 → V' p l e R s m args below meth c A H0 Q D K4 ad nr nL cs sl tgt lv st H) (kf : ¬ (x = 0) → V' p l e R s m args below meth c A H0 Q D K4 ad nr nL cs sl (pc + 3) lv st H) : V' p l e R s m args below meth c A H0 Q D K4 ad nr nL cs sl pc lv (.int x :: st) H :=
  fun Hh locs ls hP hD hS hl => lv_if_eq hC.1 hC.2.1 hdg ht (fun h => kt h Hh locs ls hP hD hS hl) (fun h => kf h Hh locs ls hP hD hS hl)
theorem V_icmp_eq (hC : Cx p s m args c A H0 D K4 nL own cc) {x y : Int32} {off : Int} {tgt : Nat} (hdg : decode cc pc = .ok (.if_icmp .eq off, 3)) (ht : (pc : Int) + off = (tgt : Int)) (kt : x = y → V' p l e R s m args below meth c A H0 Q D K4 ad nr nL cs sl tgt lv st H) (kf : ¬ (x = y) → V' p l e R s m args below meth c A H0 Q D K4 ad nr nL cs sl (pc + 3) lv st H) : V' p l e R s m args below meth c A H0 Q D K4 ad nr nL cs sl pc lv (.int y :: .int x :: st) H :=
  fun Hh locs ls hP hD hS hl => lv_icmp_eq hC.1 hC.2.1 hdg ht (fun h => kt h Hh locs ls hP hD hS hl) (fun h => kf h Hh locs ls hP hD hS hl)
theorem V_if_ne (hC : Cx p s m args c A H0 D K4 nL own cc) {x : Int32} {off : Int} {tgt : Nat} (hdg : decode cc pc = .ok (.ifCond .ne off, 3)) (ht : (pc : Int) + off = (tgt : Int)) (kt : ¬ x = 0 → V' p l e R s m args below meth c A H0 Q D K4 ad nr nL cs sl tgt lv st H) (kf : x = 0 → V' p l e R s m args below meth c A H0 Q D K4 ad nr nL cs sl (pc + 3) lv st H) : V' p l e R s m args below meth c A H0 Q D K4 ad nr nL cs sl pc lv (.int x :: st) H :=
  fun Hh locs ls hP hD hS hl => lv_if_ne hC.1 hC.2.1 hdg ht (fun h => kt h Hh locs ls hP hD hS hl) (fun h => kf h Hh locs ls hP hD hS hl)
theorem V_icmp_ne (hC : Cx p s m args c A H0 D K4 nL own cc) {x y : Int32} {off : Int} {tgt : Nat} (hdg : decode cc pc = .ok (.if_icmp .ne off, 3)) (ht : (pc : Int) + off = (tgt : Int)) (kt : ¬ x = y → V' p l e R s m args below meth c A H0 Q D K4 ad nr nL cs sl tgt lv st H) (kf : x = y → V' p l e R s m args below meth c A H0 Q D K4 ad nr nL cs sl (pc + 3) lv st H) : V' p l e R s m args below meth c A H0 Q D K4 ad nr nL cs sl pc lv (.int y :: .int x :: st) H :=
  fun Hh locs ls hP hD hS hl => lv_icmp_ne hC.1 hC.2.1 hdg ht (fun h => kt h Hh locs ls hP hD hS hl) (fun h => kf h Hh locs ls hP hD hS hl)
theorem V_if_lt (hC : Cx p s m args c A H0 D K4 nL own cc) {x : Int32} {off : Int} {tgt : Nat} (hdg : decode cc pc = .ok (.ifCond .lt off, 3)) (ht : (pc : Int) + off = (tgt : Int)) (kt : x < 0 → V' p l e R s m args below meth c A H0 Q D K4 ad nr nL cs sl tgt lv st H) (kf : ¬ (x < 0) → V' p l e R s m args below meth c A H0 Q D K4 ad nr nL cs sl (pc + 3) lv st H) : V' p l e R s m args below meth c A H0 Q D K4 ad nr nL cs sl pc lv (.int x :: st) H :=
  fun Hh locs ls hP hD hS hl => lv_if_lt hC.1 hC.2.1 hdg ht (fun h => kt h Hh locs ls hP hD hS hl) (fun h => kf h Hh locs ls hP hD hS hl)
theorem V_icmp_lt (hC : Cx p s m args c A H0 D K4 nL own cc) {x y : Int32} {off : Int} {tgt : Nat} (hdg : decode cc pc = .ok (.if_icmp .lt off, 3)) (ht : (pc : Int) + off = (tgt : Int)) (kt : x < y → V' p l e R s m args below meth c A H0 Q D K4 ad nr nL cs sl tgt lv st H) (kf : ¬ (x < y) → V' p l e R s m args below meth c A H0 Q D K4 ad nr nL cs sl (pc + 3) lv st H) : V' p l e R s m args below meth c A H0 Q D K4 ad nr nL cs sl pc lv (.int y :: .int x :: st) H :=
  fun Hh locs ls hP hD hS hl => lv_icmp_lt hC.1 hC.2.1 hdg ht (fun h => kt h Hh locs ls hP hD hS hl) (fun h => kf h Hh locs ls hP hD hS hl)
theorem V_if_ge (hC : Cx p s m args c A H0 D K4 nL own cc) {x : Int32} {off : Int} {tgt : Nat} (hdg : decode cc pc = .ok (.ifCond .ge off, 3)) (ht : (pc : Int) + off = (tgt : Int)) (kt : 0 ≤ x → V' p l e R s m args below meth c A H0 Q D K4 ad nr nL cs sl tgt lv st H) (kf : ¬ (0 ≤ x) → V' p l e R s m args below meth c A H0 Q D K4 ad nr nL cs sl (pc + 3) lv st H) : V' p l e R s m args below meth c A H0 Q D K4 ad nr nL cs sl pc lv (.int x :: st) H :=
  fun Hh locs ls hP hD hS hl => lv_if_ge hC.1 hC.2.1 hdg ht (fun h => kt h Hh locs ls hP hD hS hl) (fun h => kf h Hh locs ls hP hD hS hl)
theorem V_icmp_ge (hC : Cx p s m args c A H0 D K4 nL own cc) {x y : Int32} {off : Int} {tgt : Nat} (hdg : decode cc pc = .ok (.if_icmp .ge off, 3)) (ht : (pc : Int) + off = (tgt : Int)) (kt : y ≤ x → V' p l e R s m args below meth c A H0 Q D K4 ad nr nL cs sl tgt lv st H) (kf : ¬ (y ≤ x) → V' p l e R s m args below meth c A H0 Q D K4 ad nr nL cs sl (pc + 3) lv st H) : V' p l e R s m args below meth c A H0 Q D K4 ad nr nL cs sl pc lv (.int y :: .int x :: st) H :=
  fun Hh locs ls hP hD hS hl => lv_icmp_ge hC.1 hC.2.1 hdg ht (fun h => kt h Hh locs ls hP hD hS hl) (fun h => kf h Hh locs ls hP hD hS hl)
theorem V_if_gt (hC : Cx p s m args c A H0 D K4 nL own cc) {x : Int32} {off : Int} {tgt : Nat} (hdg : decode cc pc = .ok (.ifCond .gt off, 3)) (ht : (pc : Int) + off = (tgt : Int)) (kt : 0 < x → V' p l e R s m args below meth c A H0 Q D K4 ad nr nL cs sl tgt lv st H) (kf : ¬ (0 < x) → V' p l e R s m args below meth c A H0 Q D K4 ad nr nL cs sl (pc + 3) lv st H) : V' p l e R s m args below meth c A H0 Q D K4 ad nr nL cs sl pc lv (.int x :: st) H :=
  fun Hh locs ls hP hD hS hl => lv_if_gt hC.1 hC.2.1 hdg ht (fun h => kt h Hh locs ls hP hD hS hl) (fun h => kf h Hh locs ls hP hD hS hl)
theorem V_icmp_gt (hC : Cx p s m args c A H0 D K4 nL own cc) {x y : Int32} {off : Int} {tgt : Nat} (hdg : decode cc pc = .ok (.if_icmp .gt off, 3)) (ht : (pc : Int) + off = (tgt : Int)) (kt : y < x → V' p l e R s m args below meth c A H0 Q D K4 ad nr nL cs sl tgt lv st H) (kf : ¬ (y < x) → V' p l e R s m args below meth c A H0 Q D K4 ad nr nL cs sl (pc + 3) lv st H) : V' p l e R s m args below meth c A H0 Q D K4 ad nr nL cs sl pc lv (.int y :: .int x :: st) H :=
  fun Hh locs ls hP hD hS hl => lv_icmp_gt hC.1 hC.2.1 hdg ht (fun h => kt h Hh locs ls hP hD hS hl) (fun h => kf h Hh locs ls hP hD hS hl)
theorem V_if_le (hC : Cx p s m args c A H0 D K4 nL own cc) {x : Int32} {off : Int} {tgt : Nat} (hdg : decode cc pc = .ok (.ifCond .le off, 3)) (ht : (pc : Int) + off = (tgt : Int)) (kt : x ≤ 0 → V' p l e R s m args below meth c A H0 Q D K4 ad nr nL cs sl tgt lv st H) (kf : ¬ (x ≤ 0) → V' p l e R s m args below meth c A H0 Q D K4 ad nr nL cs sl (pc + 3) lv st H) : V' p l e R s m args below meth c A H0 Q D K4 ad nr nL cs sl pc lv (.int x :: st) H :=
  fun Hh locs ls hP hD hS hl => lv_if_le hC.1 hC.2.1 hdg ht (fun h => kt h Hh locs ls hP hD hS hl) (fun h => kf h Hh locs ls hP hD hS hl)
theorem V_icmp_le (hC : Cx p s m args c A H0 D K4 nL own cc) {x y : Int32} {off : Int} {tgt : Nat} (hdg : decode cc pc = .ok (.if_icmp .le off, 3)) (ht : (pc : Int) + off = (tgt : Int)) (kt : x ≤ y → V' p l e R s m args below meth c A H0 Q D K4 ad nr nL cs sl tgt lv st H) (kf : ¬ (x ≤ y) → V' p l e R s m args below meth c A H0 Q D K4 ad nr nL cs sl (pc + 3) lv st H) : V' p l e R s m args below meth c A H0 Q D K4 ad nr nL cs sl pc lv (.int y :: .int x :: st) H :=
  fun Hh locs ls hP hD hS hl => lv_icmp_le hC.1 hC.2.1 hdg ht (fun h => kt h Hh locs ls hP hD hS hl) (fun h => kf h Hh locs ls hP hD hS hl)
theorem V_goto (hC : Cx p s m args c A H0 D K4 nL own cc) {off : Int} {tgt : Nat} (hdg : decode cc pc = .ok (.goto off, 3)) (ht : (pc : Int) + off = (tgt : Int)) (kk : V' p l e R s m args below meth c A H0 Q D K4 ad nr nL cs sl tgt lv st H) : V' p l e R s m args below meth c A H0 Q D K4 ad nr nL cs sl pc lv st H :=
  fun Hh locs ls hP hD hS hl => lv_goto hC.1 hC.2.1 hdg ht (kk Hh locs ls hP hD hS hl)
theorem V_lv (ks : List Nat) (h : lv_pick lv ks = lv') (kk : V' p l e R s m args below meth c A H0 Q D K4 ad nr nL cs sl pc lv' st H) : V' p l e R s m args below meth c A H0 Q D K4 ad nr nL cs sl pc lv st H :=
  fun Hh locs ls hP hD hS hl => kk Hh locs ls hP hD hS (lv_sub hl ks h)
theorem V_get (hC : Cx p s m args c A H0 D K4 nL own cc) {g k idx ci j : Nat} {v : Value} (hF : FL own idx ci j) (hok : okn nr g k = true) (hk : (kd g k).1 = ci + 4) (hv : fv ad H g k ci j = v) (hdg : decode cc pc = .ok (.getfield idx, 3)) (kk : V' p l e R s m args below meth c A H0 Q D K4 ad nr nL cs sl (pc + 3) lv (v :: st) H) : V' p l e R s m args below meth c A H0 Q D K4 ad nr nL cs sl pc lv (.ref (ad g k) :: st) H := by
  intro Hh locs ls hP hD hS hl
  obtain ⟨q0, hq, -⟩ := wl_get (K4 := K4) (ad := ad) (H := H) hok
  have hc : cel K4 ad H g k = .inr (ci, fls ad H g k ci) := by unfold cel; rw [hk]
  rw [hc] at hq
  obtain ⟨C, T, N, h1, h2, h2', h3, h4⟩ := hF
  have hv' : (fls ad H g k ci)[j]? = some v := by
    unfold fls
    rw [List.getElem?_map, List.getElem?_range h2']
    exact congrArg some hv
  rcases h4 with h4 | ⟨host, h4⟩
  · exact va_get hC.1 hC.2.1 hC.2.2.2.2.1 h3 hC.2.2.2.1 hC.2.2.2.2.2.1 hP q0 hq h1 j h2 (hC.2.2.2.2.1 _ h4) (fun x h => h) hv' hdg (kk Hh locs ls hP hD hS hl)
  · exact va_getN hC.1 hC.2.1 hC.2.2.2.2.1 h3 hC.2.2.2.1 hC.2.2.2.2.2.1 hP q0 hq h1 j h2 (va_Nw.use (A := args) rfl (hC.2.2.2.2.2.2.1 _ h4)) (fun x h => h) hv' hdg (kk Hh locs ls hP hD hS hl)
theorem V_getI (hC : Cx p s m args c A H0 D K4 nL own cc) {g k idx : Nat} (ci j : Nat) (hF : FL own idx ci j) (hok : okn nr g k = true) (hk : (kd g k).1 = ci + 4) (ht : fty ci j = 0) (hdg : decode cc pc = .ok (.getfield idx, 3)) (kk : V' p l e R s m args below meth c A H0 Q D K4 ad nr nL cs sl (pc + 3) lv (.int (gI H g k j) :: st) H) : V' p l e R s m args below meth c A H0 Q D K4 ad nr nL cs sl pc lv (.ref (ad g k) :: st) H :=
  V_get hC hF hok hk (by unfold fv; rw [ht]; rfl) hdg kk
theorem V_getJ (hC : Cx p s m args c A H0 D K4 nL own cc) {g k idx : Nat} (ci j : Nat) (hF : FL own idx ci j) (hok : okn nr g k = true) (hk : (kd g k).1 = ci + 4) (ht : fty ci j = 1) (hdg : decode cc pc = .ok (.getfield idx, 3)) (kk : V' p l e R s m args below meth c A H0 Q D K4 ad nr nL cs sl (pc + 3) lv (.long (gJ H g k j) :: st) H) : V' p l e R s m args below meth c A H0 Q D K4 ad nr nL cs sl pc lv (.ref (ad g k) :: st) H :=
  V_get hC hF hok hk (by unfold fv; rw [ht]; rfl) hdg kk
theorem V_getR (hC : Cx p s m args c A H0 D K4 nL own cc) {g k idx : Nat} (ci j : Nat) {g' k' : Nat} (hF : FL own idx ci j) (hok : okn nr g k = true) (hk : (kd g k).1 = ci + 4) (ht : fty ci j = 2) (hr : rfn g k j = (g', k')) (hdg : decode cc pc = .ok (.getfield idx, 3)) (kk : V' p l e R s m args below meth c A H0 Q D K4 ad nr nL cs sl (pc + 3) lv (.ref (ad g' k') :: st) H) : V' p l e R s m args below meth c A H0 Q D K4 ad nr nL cs sl pc lv (.ref (ad g k) :: st) H :=
  V_get hC hF hok hk (by unfold fv; rw [ht, hr]; rfl) hdg kk
theorem V_put (hC : Cx p s m args c A H0 D K4 nL own cc) {g k idx ci j : Nat} {v : Value} {ty : FieldType} {H' : Hp} (hF : FW own idx ci j ty) (hok : okn nr g k = true) (hk : (kd g k).1 = ci + 4) (hs : ∀ g' k', (g', k') ≠ (g, k) → cel K4 ad H' g' k' = cel K4 ad H g' k') (hv : fv ad H' g k ci j = v) (ho : ∀ i, i ≠ j → fv ad H' g k ci i = fv ad H g k ci i) (hn : narrow ty v = v) (hfit : fits ty v = true) (hdg : decode cc pc = .ok (.putfield idx, 3)) (kk : V' p l e R s m args below meth c A H0 Q D K4 ad nr nL cs sl (pc + 3) lv st H') : V' p l e R s m args below meth c A H0 Q D K4 ad nr nL cs sl pc lv (v :: .ref (ad g k) :: st) H := by
  intro Hh locs ls hP hD hS hl
  obtain ⟨q0, hq, hq2⟩ := wl_get (K4 := K4) (ad := ad) (H := H) hok
  have hc : cel K4 ad H g k = .inr (ci, fls ad H g k ci) := by unfold cel; rw [hk]
  have hc' : cel K4 ad H' g k = .inr (ci, (fls ad H g k ci).set j v) := by
    have h0 : (fls ad H g k ci).set j v = fls ad H' g k ci := rng_set _ _ _ j v hv ho
    rw [h0]; unfold cel; rw [hk]
  rw [hc] at hq
  obtain ⟨C, T, N, ty0, h1, h2, h2', h3, h4, h5, h6, h7, h8⟩ := hF
  have hlen : j < (fls ad H g k ci).length := by unfold fls; rw [List.length_map, List.length_range]; exact h2'
  have hw := wl_set hD hq2 hs hc'
  rcases h4 with h4 | ⟨host, h4⟩
  · refine va_put hC.1 hC.2.1 hC.2.2.2.2.1 h3 ty0 h5 h6 hC.2.2.2.1 hC.2.2.2.2.2.1 hP hD hS q0 hq h1 j h2 (hC.2.2.2.2.1 _ h4) (fun x h => h) h7 h8 hn hfit hlen hdg (fun H1 locs1 a1 a2 a3 => ?_)
    rw [hw] at a1 a2
    exact kk H1 locs1 ls a1 a2 a3 hl
  · refine va_putN hC.1 hC.2.1 hC.2.2.2.2.1 h3 ty0 h5 h6 hC.2.2.2.1 hC.2.2.2.2.2.1 hP hD hS q0 hq h1 j h2 (va_Nw.use (A := args) rfl (hC.2.2.2.2.2.2.1 _ h4)) (fun x h => h) h7 h8 hn hfit hlen hdg (fun H1 locs1 a1 a2 a3 => ?_)
    rw [hw] at a1 a2
    exact kk H1 locs1 ls a1 a2 a3 hl
theorem V_putI (hC : Cx p s m args c A H0 D K4 nL own cc) {g k idx : Nat} (ci j : Nat) {x : Int32} (ty : FieldType) (hF : FW own idx ci j ty) (hok : okn nr g k = true) (hk : (kd g k).1 = ci + 4) (ht : fty ci j = 0) (hn : narrow ty (.int x) = .int x) (hfit : fits ty (.int x) = true) (hdg : decode cc pc = .ok (.putfield idx, 3)) (kk : V' p l e R s m args below meth c A H0 Q D K4 ad nr nL cs sl (pc + 3) lv st (sI H g k j x)) : V' p l e R s m args below meth c A H0 Q D K4 ad nr nL cs sl pc lv (.int x :: .ref (ad g k) :: st) H := by
  refine V_put hC hF hok hk cel_sI ?_ ?_ hn hfit hdg kk
  · unfold fv; rw [ht, sI_row]; show Value.int (upd (H.1 g k) j x j) = _; unfold upd; rw [if_pos rfl]
  · intro i hi
    unfold fv; rw [sI_row]; unfold upd; rw [if_neg hi]; rfl
theorem V_putJ (hC : Cx p s m args c A H0 D K4 nL own cc) {g k idx : Nat} (ci j : Nat) {x : Int64} (ty : FieldType) (hF : FW own idx ci j ty) (hok : okn nr g k = true) (hk : (kd g k).1 = ci + 4) (ht : fty ci j = 1) (hn : narrow ty (.long x) = .long x) (hfit : fits ty (.long x) = true) (hdg : decode cc pc = .ok (.putfield idx, 3)) (kk : V' p l e R s m args below meth c A H0 Q D K4 ad nr nL cs sl (pc + 3) lv st (sJ H g k j x)) : V' p l e R s m args below meth c A H0 Q D K4 ad nr nL cs sl pc lv (.long x :: .ref (ad g k) :: st) H := by
  refine V_put hC hF hok hk cel_sJ ?_ ?_ hn hfit hdg kk
  · unfold fv; rw [ht, sJ_row]; show Value.long (vp_updL (H.2.1 g k) j x j) = _; unfold vp_updL; rw [if_pos rfl]
  · intro i hi
    unfold fv; rw [sJ_row]; unfold vp_updL; rw [if_neg hi]; rfl
theorem V_iald (hC : Cx p s m args c A H0 D K4 nL own cc) {g k n : Nat} {i : Int32} (hok : okn nr g k = true) (hk : kd g k = (0, n)) (hin : vp_in i n) (hdg : decode cc pc = .ok (.iaload, 1)) (kk : V' p l e R s m args below meth c A H0 Q D K4 ad nr nL cs sl (pc + 1) lv (.int (gI H g k i.toNatClampNeg) :: st) H) : V' p l e R s m args below meth c A H0 Q D K4 ad nr nL cs sl pc lv (.int i :: .ref (ad g k) :: st) H := by
  intro Hh locs ls hP hD hS hl
  obtain ⟨q0, hq, -⟩ := wl_get (K4 := K4) (ad := ad) (H := H) hok
  have hc : cel K4 ad H g k = .inl (K4.1, n, .inl (H.1 g k)) := by unfold cel; rw [hk]
  rw [hc] at hq
  exact va_iald hC.1 hC.2.1 hC.2.2.2.2.2.1 hP q0 0 hq rfl hin hdg (kk Hh locs ls hP hD hS hl)
theorem V_zald (hC : Cx p s m args c A H0 D K4 nL own cc) {g k n : Nat} {i : Int32} (hok : okn nr g k = true) (hk : kd g k = (2, n)) (hin : vp_in i n) (hdg : decode cc pc = .ok (.baload, 1)) (kk : V' p l e R s m args below meth c A H0 Q D K4 ad nr nL cs sl (pc + 1) lv (.int (gI H g k i.toNatClampNeg) :: st) H) : V' p l e R s m args below meth c A H0 Q D K4 ad nr nL cs sl pc lv (.int i :: .ref (ad g k) :: st) H := by
  intro Hh locs ls hP hD hS hl
  obtain ⟨q0, hq, -⟩ := wl_get (K4 := K4) (ad := ad) (H := H) hok
  have hc : cel K4 ad H g k = .inl (K4.2.2.1, n, .inl (H.1 g k)) := by unfold cel; rw [hk]
  rw [hc] at hq
  exact va_zald hC.1 hC.2.1 hC.2.2.2.2.2.1 hP q0 2 hq rfl hin hdg (kk Hh locs ls hP hD hS hl)
theorem V_lald (hC : Cx p s m args c A H0 D K4 nL own cc) {g k n : Nat} {i : Int32} (hok : okn nr g k = true) (hk : kd g k = (1, n)) (hin : vp_in i n) (hdg : decode cc pc = .ok (.laload, 1)) (kk : V' p l e R s m args below meth c A H0 Q D K4 ad nr nL cs sl (pc + 1) lv (.long (gJ H g k i.toNatClampNeg) :: st) H) : V' p l e R s m args below meth c A H0 Q D K4 ad nr nL cs sl pc lv (.int i :: .ref (ad g k) :: st) H := by
  intro Hh locs ls hP hD hS hl
  obtain ⟨q0, hq, -⟩ := wl_get (K4 := K4) (ad := ad) (H := H) hok
  have hc : cel K4 ad H g k = .inl (K4.2.1, n, .inr (.inl (H.2.1 g k))) := by unfold cel; rw [hk]
  rw [hc] at hq
  exact va_lald hC.1 hC.2.1 hC.2.2.2.2.2.1 hP q0 1 hq rfl hin hdg (kk Hh locs ls hP hD hS hl)
theorem V_aald (hC : Cx p s m args c A H0 D K4 nL own cc) {g k n : Nat} {i : Int32} (hok : okn nr g k = true) (hk : kd g k = (3, n)) (hin : vp_in i n) (hdg : decode cc pc = .ok (.aaload, 1)) (kk : V' p l e R s m args below meth c A H0 Q D K4 ad nr nL cs sl (pc + 1) lv (vr ad (gR H g k i.toNatClampNeg) :: st) H) : V' p l e R s m args below meth c A H0 Q D K4 ad nr nL cs sl pc lv (.int i :: .ref (ad g k) :: st) H := by
  intro Hh locs ls hP hD hS hl
  obtain ⟨q0, hq, -⟩ := wl_get (K4 := K4) (ad := ad) (H := H) hok
  have hc : cel K4 ad H g k = .inl (K4.2.2.2, n, .inr (.inr (.inr (.inr (fun i => (H.2.2 g k i).map (fun r => ad (r + 2) 0)))))) := by unfold cel; rw [hk]
  rw [hc] at hq
  exact va_aldq hC.1 hC.2.1 hC.2.2.2.2.2.1 hP q0 3 hq rfl hin hdg (kk Hh locs ls hP hD hS hl)
theorem V_iast (hC : Cx p s m args c A H0 D K4 nL own cc) {g k n : Nat} {i x : Int32} (hok : okn nr g k = true) (hk : kd g k = (0, n)) (hin : vp_in i n) (hdg : decode cc pc = .ok (.iastore, 1)) (kk : V' p l e R s m args below meth c A H0 Q D K4 ad nr nL cs sl (pc + 1) lv st (sI H g k i.toNatClampNeg x)) : V' p l e R s m args below meth c A H0 Q D K4 ad nr nL cs sl pc lv (.int x :: .int i :: .ref (ad g k) :: st) H := by
  intro Hh locs ls hP hD hS hl
  obtain ⟨q0, hq, hq2⟩ := wl_get (K4 := K4) (ad := ad) (H := H) hok
  have hc : cel K4 ad H g k = .inl (K4.1, n, .inl (H.1 g k)) := by unfold cel; rw [hk]
  have hc' : cel K4 ad (sI H g k i.toNatClampNeg x) g k = .inl (K4.1, n, .inl (upd (H.1 g k) i.toNatClampNeg x)) := by unfold cel; rw [hk, sI_row]
  rw [hc] at hq
  have hw := wl_set hD hq2 cel_sI hc'
  refine va_iast hC.1 hC.2.1 hC.2.2.2.2.2.1 hP hD hS q0 0 hq rfl hin hdg (fun H1 locs1 a1 a2 a3 => ?_)
  rw [hw] at a1 a2
  exact kk H1 locs1 ls a1 a2 a3 hl
theorem V_zast (hC : Cx p s m args c A H0 D K4 nL own cc) {g k n : Nat} {i x : Int32} (hok : okn nr g k = true) (hk : kd g k = (2, n)) (hin : vp_in i n) (hdg : decode cc pc = .ok (.bastore, 1)) (kk : V' p l e R s m args below meth c A H0 Q D K4 ad nr nL cs sl (pc + 1) lv st (sI H g k i.toNatClampNeg (vp_nar .boolean x))) : V' p l e R s m args below meth c A H0 Q D K4 ad nr nL cs sl pc lv (.int x :: .int i :: .ref (ad g k) :: st) H := by
  intro Hh locs ls hP hD hS hl
  obtain ⟨q0, hq, hq2⟩ := wl_get (K4 := K4) (ad := ad) (H := H) hok
  have hc : cel K4 ad H g k = .inl (K4.2.2.1, n, .inl (H.1 g k)) := by unfold cel; rw [hk]
  have hc' : cel K4 ad (sI H g k i.toNatClampNeg (vp_nar .boolean x)) g k = .inl (K4.2.2.1, n, .inl (upd (H.1 g k) i.toNatClampNeg (vp_nar .boolean x))) := by unfold cel; rw [hk, sI_row]
  rw [hc] at hq
  have hw := wl_set hD hq2 cel_sI hc'
  refine va_zast hC.1 hC.2.1 hC.2.2.2.2.2.1 hP hD hS q0 2 hq rfl hin hdg (fun H1 locs1 a1 a2 a3 => ?_)
  rw [hw] at a1 a2
  exact kk H1 locs1 ls a1 a2 a3 hl
theorem V_last (hC : Cx p s m args c A H0 D K4 nL own cc) {g k n : Nat} {i : Int32} {x : Int64} (hok : okn nr g k = true) (hk : kd g k = (1, n)) (hin : vp_in i n) (hdg : decode cc pc = .ok (.lastore, 1)) (kk : V' p l e R s m args below meth c A H0 Q D K4 ad nr nL cs sl (pc + 1) lv st (sJ H g k i.toNatClampNeg x)) : V' p l e R s m args below meth c A H0 Q D K4 ad nr nL cs sl pc lv (.long x :: .int i :: .ref (ad g k) :: st) H := by
  intro Hh locs ls hP hD hS hl
  obtain ⟨q0, hq, hq2⟩ := wl_get (K4 := K4) (ad := ad) (H := H) hok
  have hc : cel K4 ad H g k = .inl (K4.2.1, n, .inr (.inl (H.2.1 g k))) := by unfold cel; rw [hk]
  have hc' : cel K4 ad (sJ H g k i.toNatClampNeg x) g k = .inl (K4.2.1, n, .inr (.inl (vp_updL (H.2.1 g k) i.toNatClampNeg x))) := by unfold cel; rw [hk, sJ_row]
  rw [hc] at hq
  have hw := wl_set hD hq2 cel_sJ hc'
  refine va_last hC.1 hC.2.1 hC.2.2.2.2.2.1 hP hD hS q0 1 hq rfl hin hdg (fun H1 locs1 a1 a2 a3 => ?_)
  rw [hw] at a1 a2
  exact kk H1 locs1 ls a1 a2 a3 hl
theorem V_aast (hC : Cx p s m args c A H0 D K4 nL own cc) {g k n r : Nat} {i : Int32} (hok : okn nr g k = true) (hk : kd g k = (3, n)) (hr : r < nr) (hin : vp_in i n) (hdg : decode cc pc = .ok (.aastore, 1)) (kk : V' p l e R s m args below meth c A H0 Q D K4 ad nr nL cs sl (pc + 1) lv st (sR H g k i.toNatClampNeg (some r))) : V' p l e R s m args below meth c A H0 Q D K4 ad nr nL cs sl pc lv (.ref (ad (r + 2) 0) :: .int i :: .ref (ad g k) :: st) H := by
  intro Hh locs ls hP hD hS hl
  obtain ⟨q0, hq, hq2⟩ := wl_get (K4 := K4) (ad := ad) (H := H) hok
  obtain ⟨q1, hq1, -⟩ := wl_get (K4 := K4) (ad := ad) (H := H) (okR (k := 0) hr rfl)
  have hc : cel K4 ad H g k = .inl (K4.2.2.2, n, .inr (.inr (.inr (.inr (fun i => (H.2.2 g k i).map (fun r => ad (r + 2) 0)))))) := by unfold cel; rw [hk]
  have hc' : cel K4 ad (sR H g k i.toNatClampNeg (some r)) g k = .inl (K4.2.2.2, n, .inr (.inr (.inr (.inr (va_up (fun i => (H.2.2 g k i).map (fun r => ad (r + 2) 0)) i.toNatClampNeg (some (ad (r + 2) 0))))))) := by
    unfold cel; rw [hk]
    have h0 : (fun j => ((sR H g k i.toNatClampNeg (some r)).2.2 g k j).map (fun r => ad (r + 2) 0)) = va_up (fun i => (H.2.2 g k i).map (fun r => ad (r + 2) 0)) i.toNatClampNeg (some (ad (r + 2) 0)) := by
      funext j
      show Option.map _ (if g = g ∧ k = k ∧ j = i.toNatClampNeg then some r else H.2.2 g k j) = if j = i.toNatClampNeg then _ else _
      by_cases hj : j = i.toNatClampNeg
      · rw [if_pos ⟨rfl, rfl, hj⟩, if_pos hj]; rfl
      · rw [if_neg (fun q => hj q.2.2), if_neg hj]
    show Sum.inl _ = _
    rw [h0]
  rw [hc] at hq
  have hw := wl_set hD hq2 cel_sR hc'
  refine va_astq hC.1 hC.2.1 hC.2.2.2.2.2.1 hP hD hS q0 3 q1 2 (r := (RX2, TX2, 9)) hq rfl hq1 rfl hin hdg (fun H1 locs1 a1 a2 a3 => ?_)
  rw [hw] at a1 a2
  exact kk H1 locs1 ls a1 a2 a3 hl
theorem V_alen (hC : Cx p s m args c A H0 D K4 nL own cc) {g k t n : Nat} {v : Int32} (hok : okn nr g k = true) (hk : kd g k = (t, n)) (ht : t < 4) (hv : Int32.ofNat n = v) (hdg : decode cc pc = .ok (.arraylength, 1)) (kk : V' p l e R s m args below meth c A H0 Q D K4 ad nr nL cs sl (pc + 1) lv (.int v :: st) H) : V' p l e R s m args below meth c A H0 Q D K4 ad nr nL cs sl pc lv (.ref (ad g k) :: st) H := by
  intro Hh locs ls hP hD hS hl
  obtain ⟨q0, hq, -⟩ := wl_get (K4 := K4) (ad := ad) (H := H) hok
  rcases (show t = 0 ∨ t = 1 ∨ t = 2 ∨ t = 3 by omega) with rfl | rfl | rfl | rfl
  · have hc : cel K4 ad H g k = .inl (K4.1, n, .inl (H.1 g k)) := by unfold cel; rw [hk]
    rw [hc] at hq
    exact va_alen hC.1 hC.2.1 hC.2.2.2.2.2.1 hP q0 0 hq rfl hv hdg (kk Hh locs ls hP hD hS hl)
  · have hc : cel K4 ad H g k = .inl (K4.2.1, n, .inr (.inl (H.2.1 g k))) := by unfold cel; rw [hk]
    rw [hc] at hq
    exact va_alen hC.1 hC.2.1 hC.2.2.2.2.2.1 hP q0 1 hq rfl hv hdg (kk Hh locs ls hP hD hS hl)
  · have hc : cel K4 ad H g k = .inl (K4.2.2.1, n, .inl (H.1 g k)) := by unfold cel; rw [hk]
    rw [hc] at hq
    exact va_alen hC.1 hC.2.1 hC.2.2.2.2.2.1 hP q0 2 hq rfl hv hdg (kk Hh locs ls hP hD hS hl)
  · have hc : cel K4 ad H g k = .inl (K4.2.2.2, n, .inr (.inr (.inr (.inr (fun i => (H.2.2 g k i).map (fun r => ad (r + 2) 0)))))) := by unfold cel; rw [hk]
    rw [hc] at hq
    exact va_alen hC.1 hC.2.1 hC.2.2.2.2.2.1 hP q0 3 hq rfl hv hdg (kk Hh locs ls hP hD hS hl)
theorem V_aloadq_n (hC : Cx p s m args c A H0 D K4 nL own cc) {i : Fin 4} {o : Option Nat} (k : Nat) (hdg : decode cc pc = .ok (.aload_n i, 1)) (hv : lv[k]? = some ((i : Nat), vr ad o)) (kk : V' p l e R s m args below meth c A H0 Q D K4 ad nr nL cs sl (pc + 1) lv (vr ad o :: st) H) : V' p l e R s m args below meth c A H0 Q D K4 ad nr nL cs sl pc lv st H := by
  intro Hh locs ls hP hD hS hl
  cases o with
  | none => exact lv_aload_nN hC.1 hC.2.1 hdg rfl (lv_at hl k hv) (kk Hh locs ls hP hD hS hl)
  | some r => exact lv_aload_n hC.1 hC.2.1 hdg rfl (lv_at hl k hv) (kk Hh locs ls hP hD hS hl)
theorem V_aloadq (hC : Cx p s m args c A H0 D K4 nL own cc) {i : Nat} {o : Option Nat} (k : Nat) (hdg : decode cc pc = .ok (.aload i, 2)) (hv : lv[k]? = some (i, vr ad o)) (kk : V' p l e R s m args below meth c A H0 Q D K4 ad nr nL cs sl (pc + 2) lv (vr ad o :: st) H) : V' p l e R s m args below meth c A H0 Q D K4 ad nr nL cs sl pc lv st H := by
  intro Hh locs ls hP hD hS hl
  cases o with
  | none => exact lv_aloadN hC.1 hC.2.1 hdg (lv_at hl k hv) (kk Hh locs ls hP hD hS hl)
  | some r => exact lv_aload hC.1 hC.2.1 hdg (lv_at hl k hv) (kk Hh locs ls hP hD hS hl)
theorem V_astoreq_n (hC : Cx p s m args c A H0 D K4 nL own cc) {i : Fin 4} {o : Option Nat} (hdg : decode cc pc = .ok (.astore_n i, 1)) (hn : (i : Nat) < nL) (hl' : ((i : Nat), vr ad o) :: lv.filter (fun q => !(q.1 == (i : Nat)) && !(q.1 + 1 == (i : Nat) && q.2.category == 2)) = lv') (kk : V' p l e R s m args below meth c A H0 Q D K4 ad nr nL cs sl (pc + 1) lv' st H) : V' p l e R s m args below meth c A H0 Q D K4 ad nr nL cs sl pc lv (vr ad o :: st) H := by
  intro Hh locs ls hP hD hS hl
  cases o with
  | none => exact lv_astore_nN hC.1 hC.2.1 hdg rfl hl hn hl' (fun ls' hl2 => kk Hh locs ls' hP hD hS hl2)
  | some r => exact lv_astore_n hC.1 hC.2.1 hdg rfl hl hn hl' (fun ls' hl2 => kk Hh locs ls' hP hD hS hl2)
theorem V_astoreq (hC : Cx p s m args c A H0 D K4 nL own cc) {i : Nat} {o : Option Nat} (hdg : decode cc pc = .ok (.astore i, 2)) (hn : i < nL) (hl' : (i, vr ad o) :: lv.filter (fun q => !(q.1 == i) && !(q.1 + 1 == i && q.2.category == 2)) = lv') (kk : V' p l e R s m args below meth c A H0 Q D K4 ad nr nL cs sl (pc + 2) lv' st H) : V' p l e R s m args below meth c A H0 Q D K4 ad nr nL cs sl pc lv (vr ad o :: st) H := by
  intro Hh locs ls hP hD hS hl
  cases o with
  | none => exact lv_astoreN hC.1 hC.2.1 hdg hl hn hl' (fun ls' hl2 => kk Hh locs ls' hP hD hS hl2)
  | some r => exact lv_astore hC.1 hC.2.1 hdg hl hn hl' (fun ls' hl2 => kk Hh locs ls' hP hD hS hl2)
theorem V_null (hC : Cx p s m args c A H0 D K4 nL own cc) (hdg : decode cc pc = .ok (.aconst_null, 1)) (kk : V' p l e R s m args below meth c A H0 Q D K4 ad nr nL cs sl (pc + 1) lv (vr ad none :: st) H) : V' p l e R s m args below meth c A H0 Q D K4 ad nr nL cs sl pc lv st H :=
  fun Hh locs ls hP hD hS hl => lv_null hC.1 hC.2.1 hdg (kk Hh locs ls hP hD hS hl)
theorem V_ifnullN (hC : Cx p s m args c A H0 D K4 nL own cc) {off : Int} {tgt : Nat} (hdg : decode cc pc = .ok (.ifnull off, 3)) (ht : (pc : Int) + off = (tgt : Int)) (kk : V' p l e R s m args below meth c A H0 Q D K4 ad nr nL cs sl tgt lv st H) : V' p l e R s m args below meth c A H0 Q D K4 ad nr nL cs sl pc lv (vr ad none :: st) H :=
  fun Hh locs ls hP hD hS hl => lv_ifnullN hC.1 hC.2.1 hdg ht (kk Hh locs ls hP hD hS hl)
theorem V_ifnullS (hC : Cx p s m args c A H0 D K4 nL own cc) {off : Int} {r : Nat} (hdg : decode cc pc = .ok (.ifnull off, 3)) (kk : V' p l e R s m args below meth c A H0 Q D K4 ad nr nL cs sl (pc + 3) lv st H) : V' p l e R s m args below meth c A H0 Q D K4 ad nr nL cs sl pc lv (vr ad (some r) :: st) H :=
  fun Hh locs ls hP hD hS hl => lv_ifnull hC.1 hC.2.1 hdg (kk Hh locs ls hP hD hS hl)
theorem V_ifnonnullN (hC : Cx p s m args c A H0 D K4 nL own cc) {off : Int} (hdg : decode cc pc = .ok (.ifnonnull off, 3)) (kk : V' p l e R s m args below meth c A H0 Q D K4 ad nr nL cs sl (pc + 3) lv st H) : V' p l e R s m args below meth c A H0 Q D K4 ad nr nL cs sl pc lv (vr ad none :: st) H :=
  fun Hh locs ls hP hD hS hl => lv_ifnonnullN hC.1 hC.2.1 hdg (kk Hh locs ls hP hD hS hl)
theorem V_ifnonnullS (hC : Cx p s m args c A H0 D K4 nL own cc) {off : Int} {tgt r : Nat} (hdg : decode cc pc = .ok (.ifnonnull off, 3)) (ht : (pc : Int) + off = (tgt : Int)) (kk : V' p l e R s m args below meth c A H0 Q D K4 ad nr nL cs sl tgt lv st H) : V' p l e R s m args below meth c A H0 Q D K4 ad nr nL cs sl pc lv (vr ad (some r) :: st) H :=
  fun Hh locs ls hP hD hS hl => lv_ifnonnull hC.1 hC.2.1 hdg ht (kk Hh locs ls hP hD hS hl)
theorem V_tabIn (hC : Cx p s m args c A H0 D K4 nL own cc) {dflt lo hi : Int} {offs : Array Int} {len : Nat} {x : Int32} {off : Int} {tgt : Nat} (hdg : decode cc pc = .ok (.tableswitch dflt lo hi offs, len)) (h1 : ¬ x.toInt < lo) (h2 : ¬ hi < x.toInt) (ho : offs[(x.toInt - lo).toNat]? = some off) (ht : (pc : Int) + off = (tgt : Int)) (kk : V' p l e R s m args below meth c A H0 Q D K4 ad nr nL cs sl tgt lv st H) : V' p l e R s m args below meth c A H0 Q D K4 ad nr nL cs sl pc lv (.int x :: st) H :=
  fun Hh locs ls hP hD hS hl => lv_tableIn hC.1 hC.2.1 hdg h1 h2 ho ht (kk Hh locs ls hP hD hS hl)
theorem V_tabOut (hC : Cx p s m args c A H0 D K4 nL own cc) {dflt lo hi : Int} {offs : Array Int} {len : Nat} {x : Int32} {tgt : Nat} (hdg : decode cc pc = .ok (.tableswitch dflt lo hi offs, len)) (h : x.toInt < lo ∨ hi < x.toInt) (ht : (pc : Int) + dflt = (tgt : Int)) (kk : V' p l e R s m args below meth c A H0 Q D K4 ad nr nL cs sl tgt lv st H) : V' p l e R s m args below meth c A H0 Q D K4 ad nr nL cs sl pc lv (.int x :: st) H :=
  fun Hh locs ls hP hD hS hl => lv_tableOut hC.1 hC.2.1 hdg h ht (kk Hh locs ls hP hD hS hl)
theorem V_mmin (hC : Cx p s m args c A H0 D K4 nL own cc) {idx : Nat} {x y : Int32} (hw : ∀ w ∈ ([Cond.methodLink own idx Lib.Math.min.name, Cond.static Lib.Math.min.name, Cond.initialized "java/lang/Math", Cond.code Lib.Math.min.name Lib.Math.min.code 2 (some .int)] : List Cond), w ∈ GW) (hR : 1 ≤ R.frames ∧ (st.map fun v => v.category).sum + 13 ≤ R.locals) (hdg : decode cc pc = .ok (.invokestatic idx, 3)) (kk : V' p l e R s m args below meth c A H0 Q D K4 ad nr nL cs sl (pc + 3) lv (.int (if y < x then y else x) :: st) H) (hcs : cs ≤ R.cells ∧ sl ≤ R.slots := by first | exact ⟨Nat.zero_le _, Nat.zero_le _⟩ | assumption) : V' p l e R s m args below meth c A H0 Q D K4 ad nr nL cs sl pc lv (.int y :: .int x :: st) H :=
  fun Hh locs ls hP hD hS hl => va_mmin hC.1 hC.2.1 (hC.2.2.1.trans hl.1.symm) hC.2.2.2.1 (hC.2.2.2.2.1 _ (hw _ (by simp))) (hC.2.2.2.2.1 _ (hw _ (by simp))) (hC.2.2.2.2.1 _ (hw _ (by simp))) (hC.2.2.2.2.1 _ (hw _ (by simp))) hR.1 hR.2 hcs.1 hcs.2 hdg (kk Hh locs ls hP hD hS hl)
theorem V_mabs (hC : Cx p s m args c A H0 D K4 nL own cc) {idx : Nat} {x : Int32} (hw : ∀ w ∈ ([Cond.methodLink own idx Lib.Math.abs.name, Cond.static Lib.Math.abs.name, Cond.initialized "java/lang/Math", Cond.code Lib.Math.abs.name Lib.Math.abs.code 1 (some .int)] : List Cond), w ∈ GW) (hR : 1 ≤ R.frames ∧ (st.map fun v => v.category).sum + 13 ≤ R.locals) (hdg : decode cc pc = .ok (.invokestatic idx, 3)) (kk : V' p l e R s m args below meth c A H0 Q D K4 ad nr nL cs sl (pc + 3) lv (.int (if 0 ≤ x then x else 0 - x) :: st) H) (hcs : cs ≤ R.cells ∧ sl ≤ R.slots := by first | exact ⟨Nat.zero_le _, Nat.zero_le _⟩ | assumption) : V' p l e R s m args below meth c A H0 Q D K4 ad nr nL cs sl pc lv (.int x :: st) H :=
  fun Hh locs ls hP hD hS hl => va_mabs hC.1 hC.2.1 (hC.2.2.1.trans hl.1.symm) hC.2.2.2.1 (hC.2.2.2.2.1 _ (hw _ (by simp))) (hC.2.2.2.2.1 _ (hw _ (by simp))) (hC.2.2.2.2.1 _ (hw _ (by simp))) (hC.2.2.2.2.1 _ (hw _ (by simp))) hR.1 hR.2 hcs.1 hcs.2 hdg (kk Hh locs ls hP hD hS hl)
/-- contracts -/
theorem nw_on {w : Cond} (h : w ∈ NW) : w.onTables = true := by
  have h2 := (List.mem_filter.mp h).2
  unfold isNW at h2
  split at h2
  · rfl
  · rfl
  · cases h2
theorem nw_warm {w : Cond} (h : w ∈ NW) {s U : State} (hW : s.WarmedH U.vm) (hz : va_Nw w s) : va_Nw w U := by
  have h2 := (List.mem_filter.mp h).2
  unfold isNW at h2
  split at h2
  · exact va_Nw.warmF hW hz
  · exact va_Nw.warmM hW hz
  · cases h2
def PcB (D : va_G) (K4 : kQ) (ad : Nat → Nat → Nat) (nr : Nat) (H : Hp) (sz : Nat) (U : State) : Prop := U.heap.size = sz ∧ va_P D vwCl (wl K4 ad nr H) U.heap ∧ va_K D vwCl (tys4 K4) U ∧ (∀ w ∈ NW, va_Nw w U) ∧ va_D (fun _ => True) (wl K4 ad nr H)
def Bw (D : va_G) (K4 : kQ) (ad : Nat → Nat → Nat) (nr : Nat) (A : Nat → Prop) (u : Hp) (t : State) : Prop := va_P D vwCl (wl K4 ad nr u) t.heap ∧ va_D A (wl K4 ad nr u)
def PcW (D : va_G) (K4 : kQ) (ad : Nat → Nat → Nat) (nr : Nat) (H : Hp) (sz : Nat) (as : List Value) : Array Value → State → Prop := va_Pc as (PcB D K4 ad nr H sz)
theorem PcW_blind (D : va_G) (K4 : kQ) (ad : Nat → Nat → Nat) (nr : Nat) (H : Hp) (sz : Nat) (as : List Value) : FrameBlind (PcW D K4 ad nr H sz as) := by
  intro a U g mk q
  obtain ⟨q0, q1, qP, qK, qN, qD⟩ := q
  exact ⟨q0, q1, qP, va_K.moved (u := U) (U := U.calling g mk a) (Vm.Alike.refl U.vm) qK, fun w hw => va_Nw.same (u := U) (nw_on hw) rfl (qN w hw), qD⟩
def CI (l : Launch) (nr : Nat) (y : MethodName) (cy : ByteArray) (ny : Nat) (rt : Option FieldType) (fr lc : Nat) (as : (Nat → Nat → Nat) → List Value) (H : Hp) (r : Int32) (H' : Hp) : Prop :=
  ∀ (D : va_G) (K4 : kQ) (ad : Nat → Nat → Nat) (sz : Nat), Met l y (.code y cy ny rt :: GW) ({ frames := fr, cells := 0, slots := 0, locals := lc }) (PcW D K4 ad nr H sz (as ad)) (va_Qi (fun q u => q = r ∧ u = H') (Bw D K4 ad nr (va_A (wl K4 ad nr H) sz)) (va_A (wl K4 ad nr H) sz)) 0 0 (va_A (wl K4 ad nr H) sz)
def CJ (l : Launch) (nr : Nat) (y : MethodName) (cy : ByteArray) (ny : Nat) (rt : Option FieldType) (fr lc : Nat) (as : (Nat → Nat → Nat) → List Value) (H : Hp) (r : Int64) (H' : Hp) : Prop :=
  ∀ (D : va_G) (K4 : kQ) (ad : Nat → Nat → Nat) (sz : Nat), Met l y (.code y cy ny rt :: GW) ({ frames := fr, cells := 0, slots := 0, locals := lc }) (PcW D K4 ad nr H sz (as ad)) (va_Ql (fun q u => q = r ∧ u = H') (Bw D K4 ad nr (va_A (wl K4 ad nr H) sz)) (va_A (wl K4 ad nr H) sz)) 0 0 (va_A (wl K4 ad nr H) sz)
def CU (l : Launch) (nr : Nat) (y : MethodName) (cy : ByteArray) (ny : Nat) (rt : Option FieldType) (fr lc : Nat) (as : (Nat → Nat → Nat) → List Value) (H : Hp) (_ : Unit) (H' : Hp) : Prop :=
  ∀ (D : va_G) (K4 : kQ) (ad : Nat → Nat → Nat) (sz : Nat), Met l y (.code y cy ny rt :: GW) ({ frames := fr, cells := 0, slots := 0, locals := lc }) (PcW D K4 ad nr H sz (as ad)) (va_Qv (fun u => u = H') (Bw D K4 ad nr (va_A (wl K4 ad nr H) sz)) (va_A (wl K4 ad nr H) sz)) 0 0 (va_A (wl K4 ad nr H) sz)
def CQ (l : Launch) (nr : Nat) (y : MethodName) (cy : ByteArray) (ny : Nat) (rt : Option FieldType) (fr lc : Nat) (as : (Nat → Nat → Nat) → List Value) (H : Hp) (r : Option Nat) (H' : Hp) : Prop :=
  ∀ (D : va_G) (K4 : kQ) (ad : Nat → Nat → Nat) (sz : Nat), Met l y (.code y cy ny rt :: GW) ({ frames := fr, cells := 0, slots := 0, locals := lc }) (PcW D K4 ad nr H sz (as ad)) (va_Qq (fun q u => q = r.map (fun r => ad (r + 2) 0) ∧ u = H') (Bw D K4 ad nr (va_A (wl K4 ad nr H) sz)) (va_A (wl K4 ad nr H) sz)) 0 0 (va_A (wl K4 ad nr H) sz)
/-- a link to a method of class number ci, with n parameters -/
def ML (own : String) (idx : Nat) (y : MethodName) (cy : ByteArray) (ny : Nat) (rt : Option FieldType) (ci n : Nat) : Prop := (∃ T N, vwCl[ci]? = some (y.cls, T, N)) ∧ (∀ w ∈ ([.methodLink own idx y, .instanceMethod y, .selects y.cls y y, .initialized y.cls, .code y cy ny rt] : List Cond), w ∈ GW) ∧ (y.cls ≠ "java/lang/invoke/MethodHandle" ∧ y.cls ≠ "java/lang/invoke/VarHandle" ∧ (parseMethodDescriptor y.desc).map (fun d => d.parameters.length) = some n)
def MS (own : String) (idx : Nat) (y : MethodName) (cy : ByteArray) (ny : Nat) (rt : Option FieldType) (n : Nat) : Prop := (∀ w ∈ ([.methodLink own idx y, .static y, .initialized own, .code y cy ny rt] : List Cond), w ∈ GW) ∧ (y.cls = own ∧ y.cls ≠ "java/lang/invoke/MethodHandle" ∧ y.cls ≠ "java/lang/invoke/VarHandle" ∧ (parseMethodDescriptor y.desc).map (fun d => d.parameters.length) = some n)
theorem gsub {ws : List Cond} (h : ∀ w ∈ ws, w ∈ GW) : GoodIn GW ws := fun w hw => ⟨h w hw, good_of_word (List.mem_filter.mp (h w hw)).2⟩
theorem ML.cw {R : Room} {s : State} {args : Array Value} {own : String} {idx : Nat} {y : MethodName} {cy : ByteArray} {ny : Nat} {rt : Option FieldType} {ci n fr lc : Nat} (h : ML own idx y cy ny rt ci n) (ht : ∀ w ∈ GW, w.before args s = true) (hR : fr + 1 ≤ R.frames ∧ 8 + (ny + 11) + lc ≤ R.locals) : CallW R s args own y.cls idx y cy ny rt (.code y cy ny rt :: GW) ({ frames := fr, cells := 0, slots := 0, locals := lc }) 0 0 n := by
  refine cwV n ht (gsub ?_) rfl rfl rfl ⟨rfl, h.2.2⟩ hR
  intro w hw
  rcases List.mem_append.mp hw with q | q
  · exact h.2.1 w (by simp only [List.mem_cons, List.not_mem_nil, or_false] at q ⊢; rcases q with q | q | q | q <;> simp [q])
  · rcases List.mem_cons.mp q with q | q
    · exact h.2.1 w (by simp [q])
    · exact q
theorem MS.cw {R : Room} {s : State} {args : Array Value} {own : String} {idx : Nat} {y : MethodName} {cy : ByteArray} {ny : Nat} {rt : Option FieldType} {n fr lc : Nat} (h : MS own idx y cy ny rt n) (ht : ∀ w ∈ GW, w.before args s = true) (hR : fr + 1 ≤ R.frames ∧ 8 + (ny + 11) + lc ≤ R.locals) : CallB R s args own idx y cy ny rt (.code y cy ny rt :: GW) ({ frames := fr, cells := 0, slots := 0, locals := lc }) 0 0 n ∧ (Cond.static y).before args s = true := by
  refine cwS n ht (gsub ?_) rfl rfl rfl h.2 hR
  intro w hw
  rcases List.mem_append.mp hw with q | q
  · exact h.1 w (by simp only [List.mem_cons, List.not_mem_nil, or_false] at q ⊢; rcases q with q | q | q <;> simp [q])
  · rcases List.mem_cons.mp q with q | q
    · exact h.1 w (by simp [q])
    · exact q
theorem V_free (hC : Cx p s m args c A H0 D K4 nL own cc) {Hh : Heap} {locs : List Loc} (hD : va_D A (wl K4 ad nr H)) (hS : va_S A H0 Hh locs) : ∀ q, va_A (wl K4 ad nr H) Hh.size q → A q := by
  intro q h
  rcases h with ⟨k, e, hk⟩ | h
  · exact hD.2 k (q, e) hk
  · exact hC.2.2.2.2.2.2.2 q (Nat.le_trans hS.1 h)
theorem V_pre (hC : Cx p s m args c A H0 D K4 nL own cc) {Hh : Heap} (hP : va_P D vwCl (wl K4 ad nr H) Hh) (hD : va_D A (wl K4 ad nr H)) : ∀ U : State, U.heap = Hh → s.WarmedH U.vm → PcB D K4 ad nr H Hh.size U := fun U hU hW => ⟨by rw [hU], by rw [hU]; exact hP, va_K.moved hW.alike hC.2.2.2.2.2.1, fun w hw => nw_warm hw hW (hC.2.2.2.2.2.2.1 w hw), hD.weaken (fun _ _ _ _ => trivial)⟩
theorem V_run (hC : Cx p s m args c A H0 D K4 nL own cc) {idx : Nat} {y : MethodName} {cy : ByteArray} {ny : Nat} {rt : Option FieldType} {ci n fr lc g k : Nat} {As : List Value} {Qc : Array Value → State → Outcome → State → Prop} (hL : ML own idx y cy ny rt ci n) (hR : fr + 1 ≤ R.frames ∧ 8 + (ny + 11) + lc ≤ R.locals) (hok : okn nr g k = true) (hk : (kd g k).1 = ci + 4) (hn : As.length = n) {Hh : Heap} {locs : List Loc} {ls : Array Slot} (hP : va_P D vwCl (wl K4 ad nr H) Hh) (hD : va_D A (wl K4 ad nr H)) (hl : lv_has ls nL lv) (hM : Met l y (.code y cy ny rt :: GW) ({ frames := fr, cells := 0, slots := 0, locals := lc }) (PcW D K4 ad nr H Hh.size (.ref (ad g k) :: As)) Qc 0 0 (va_A (wl K4 ad nr H) Hh.size)) (hW : (st.map fun v => v.category).sum ≤ 8) (hdg : decode cc pc = .ok (.invokevirtual idx, 3)) (hcs : cs ≤ R.cells ∧ sl ≤ R.slots) : va_Run p l e R s m args below meth c Hh locs cs sl 0 0 (F0 m pc ls (As.reverse ++ .ref (ad g k) :: st)) st (Qc (Value.ref (ad g k) :: As).toArray) (va_A (wl K4 ad nr H) Hh.size) := by
  obtain ⟨q0, hq, -⟩ := wl_get (K4 := K4) (ad := ad) (H := H) hok
  have hc : cel K4 ad H g k = .inr (ci, fls ad H g k ci) := by unfold cel; rw [hk]
  rw [hc] at hq
  obtain ⟨T, N, hcl⟩ := hL.1
  exact va_runV (As := As) (rest := st) ⟨hC.1, hC.2.1, hC.2.2.1, hC.2.2.2.1, hC.2.2.2.2.1⟩ hM (hL.cw hC.2.2.2.2.1 hR) ⟨PcW_blind _ _ _ _ _ _ _, va_recv hC.2.2.2.2.2.1 hP (ci := ci) (q0 := q0) hcl hq, fun U hU hW2 => ⟨rfl, V_pre hC hP hD U hU hW2⟩⟩ rfl hn hl.1 rfl (lv_room hW) hdg hcs
theorem V_runS (hC : Cx p s m args c A H0 D K4 nL own cc) {idx : Nat} {y : MethodName} {cy : ByteArray} {ny : Nat} {rt : Option FieldType} {n fr lc : Nat} {As : List Value} {Qc : Array Value → State → Outcome → State → Prop} (hL : MS own idx y cy ny rt n) (hR : fr + 1 ≤ R.frames ∧ 8 + (ny + 11) + lc ≤ R.locals) (hn : As.length = n) {Hh : Heap} {locs : List Loc} {ls : Array Slot} (hP : va_P D vwCl (wl K4 ad nr H) Hh) (hD : va_D A (wl K4 ad nr H)) (hl : lv_has ls nL lv) (hM : Met l y (.code y cy ny rt :: GW) ({ frames := fr, cells := 0, slots := 0, locals := lc }) (PcW D K4 ad nr H Hh.size As) Qc 0 0 (va_A (wl K4 ad nr H) Hh.size)) (hW : (st.map fun v => v.category).sum ≤ 8) (hdg : decode cc pc = .ok (.invokestatic idx, 3)) (hcs : cs ≤ R.cells ∧ sl ≤ R.slots) : va_Run p l e R s m args below meth c Hh locs cs sl 0 0 (F0 m pc ls (As.reverse ++ st)) st (Qc As.toArray) (va_A (wl K4 ad nr H) Hh.size) :=
  va_runS (As := As) (rest := st) ⟨hC.1, hC.2.1, hC.2.2.1, hC.2.2.2.1, hC.2.2.2.2.1⟩ hM (hL.cw hC.2.2.2.2.1 hR) ⟨PcW_blind _ _ _ _ _ _ _, fun U hU hW2 => ⟨rfl, V_pre hC hP hD U hU hW2⟩⟩ rfl hn hl.1 rfl (lv_room hW) hdg hcs
theorem V_calli (hC : Cx p s m args c A H0 D K4 nL own cc) {idx : Nat} {y : MethodName} {cy : ByteArray} {ny : Nat} {rt : Option FieldType} {ci n fr lc g k : Nat} {As : List Value} {as : (Nat → Nat → Nat) → List Value} {r : Int32} {H' : Hp} (hM : CI l nr y cy ny rt fr lc as H r H') (has : as ad = .ref (ad g k) :: As) (hL : ML own idx y cy ny rt ci n) (hR : fr + 1 ≤ R.frames ∧ 8 + (ny + 11) + lc ≤ R.locals) (hok : okn nr g k = true) (hk : (kd g k).1 = ci + 4) (hn : As.length = n) (hW : (st.map fun v => v.category).sum ≤ 8) (hdg : decode cc pc = .ok (.invokevirtual idx, 3)) (kk : V' p l e R s m args below meth c A H0 Q D K4 ad nr nL cs sl (pc + 3) lv (.int r :: st) H') (hcs : cs ≤ R.cells ∧ sl ≤ R.slots := by first | exact ⟨Nat.zero_le _, Nat.zero_le _⟩ | assumption) : V' p l e R s m args below meth c A H0 Q D K4 ad nr nL cs sl pc lv (As.reverse ++ .ref (ad g k) :: st) H := by
  intro Hh locs ls hP hD hS hl
  have hM := hM D K4 ad Hh.size
  rw [has] at hM
  have hf := V_free (ad := ad) (nr := nr) (H := H) hC hD hS
  refine va_calli (V_run hC hL hR hok hk hn hP hD hl hM hW hdg hcs) hS (fun q _ h => hf q h) hf (fun r1 u t H1 locs1 ht hvm hw hB hz1 hk1 hS1 => ?_)
  obtain ⟨rfl, rfl⟩ := hw
  obtain ⟨hP1, hD1⟩ := hB
  rw [ht] at hP1
  exact kk H1 locs1 ls hP1 (hD1.weaken (fun _ q _ h => hf q.1 h)) hS1 hl
theorem V_calll (hC : Cx p s m args c A H0 D K4 nL own cc) {idx : Nat} {y : MethodName} {cy : ByteArray} {ny : Nat} {rt : Option FieldType} {ci n fr lc g k : Nat} {As : List Value} {as : (Nat → Nat → Nat) → List Value} {r : Int64} {H' : Hp} (hM : CJ l nr y cy ny rt fr lc as H r H') (has : as ad = .ref (ad g k) :: As) (hL : ML own idx y cy ny rt ci n) (hR : fr + 1 ≤ R.frames ∧ 8 + (ny + 11) + lc ≤ R.locals) (hok : okn nr g k = true) (hk : (kd g k).1 = ci + 4) (hn : As.length = n) (hW : (st.map fun v => v.category).sum ≤ 8) (hdg : decode cc pc = .ok (.invokevirtual idx, 3)) (kk : V' p l e R s m args below meth c A H0 Q D K4 ad nr nL cs sl (pc + 3) lv (.long r :: st) H') (hcs : cs ≤ R.cells ∧ sl ≤ R.slots := by first | exact ⟨Nat.zero_le _, Nat.zero_le _⟩ | assumption) : V' p l e R s m args below meth c A H0 Q D K4 ad nr nL cs sl pc lv (As.reverse ++ .ref (ad g k) :: st) H := by
  intro Hh locs ls hP hD hS hl
  have hM := hM D K4 ad Hh.size
  rw [has] at hM
  have hf := V_free (ad := ad) (nr := nr) (H := H) hC hD hS
  refine va_calll (V_run hC hL hR hok hk hn hP hD hl hM hW hdg hcs) hS (fun q _ h => hf q h) hf (fun r1 u t H1 locs1 ht hvm hw hB hz1 hk1 hS1 => ?_)
  obtain ⟨rfl, rfl⟩ := hw
  obtain ⟨hP1, hD1⟩ := hB
  rw [ht] at hP1
  exact kk H1 locs1 ls hP1 (hD1.weaken (fun _ q _ h => hf q.1 h)) hS1 hl
theorem V_callu (hC : Cx p s m args c A H0 D K4 nL own cc) {idx : Nat} {y : MethodName} {cy : ByteArray} {ny : Nat} {rt : Option FieldType} {ci n fr lc g k : Nat} {As : List Value} {as : (Nat → Nat → Nat) → List Value} {r : Unit} {H' : Hp} (hM : CU l nr y cy ny rt fr lc as H r H') (has : as ad = .ref (ad g k) :: As) (hL : ML own idx y cy ny rt ci n) (hR : fr + 1 ≤ R.frames ∧ 8 + (ny + 11) + lc ≤ R.locals) (hok : okn nr g k = true) (hk : (kd g k).1 = ci + 4) (hn : As.length = n) (hW : (st.map fun v => v.category).sum ≤ 8) (hdg : decode cc pc = .ok (.invokevirtual idx, 3)) (kk : V' p l e R s m args below meth c A H0 Q D K4 ad nr nL cs sl (pc + 3) lv st H') (hcs : cs ≤ R.cells ∧ sl ≤ R.slots := by first | exact ⟨Nat.zero_le _, Nat.zero_le _⟩ | assumption) : V' p l e R s m args below meth c A H0 Q D K4 ad nr nL cs sl pc lv (As.reverse ++ .ref (ad g k) :: st) H := by
  intro Hh locs ls hP hD hS hl
  have hM := hM D K4 ad Hh.size
  rw [has] at hM
  have hf := V_free (ad := ad) (nr := nr) (H := H) hC hD hS
  refine va_callv (V_run hC hL hR hok hk hn hP hD hl hM hW hdg hcs) hS (fun q _ h => hf q h) hf (fun u t H1 locs1 ht hvm hw hB hz1 hk1 hS1 => ?_)
  obtain rfl := hw
  obtain ⟨hP1, hD1⟩ := hB
  rw [ht] at hP1
  exact kk H1 locs1 ls hP1 (hD1.weaken (fun _ q _ h => hf q.1 h)) hS1 hl
theorem V_callq (hC : Cx p s m args c A H0 D K4 nL own cc) {idx : Nat} {y : MethodName} {cy : ByteArray} {ny : Nat} {rt : Option FieldType} {ci n fr lc g k : Nat} {As : List Value} {as : (Nat → Nat → Nat) → List Value} {r : Option Nat} {H' : Hp} (hM : CQ l nr y cy ny rt fr lc as H r H') (has : as ad = .ref (ad g k) :: As) (hL : ML own idx y cy ny rt ci n) (hR : fr + 1 ≤ R.frames ∧ 8 + (ny + 11) + lc ≤ R.locals) (hok : okn nr g k = true) (hk : (kd g k).1 = ci + 4) (hn : As.length = n) (hW : (st.map fun v => v.category).sum ≤ 8) (hdg : decode cc pc = .ok (.invokevirtual idx, 3)) (kk : V' p l e R s m args below meth c A H0 Q D K4 ad nr nL cs sl (pc + 3) lv (vr ad r :: st) H') (hcs : cs ≤ R.cells ∧ sl ≤ R.slots := by first | exact ⟨Nat.zero_le _, Nat.zero_le _⟩ | assumption) : V' p l e R s m args below meth c A H0 Q D K4 ad nr nL cs sl pc lv (As.reverse ++ .ref (ad g k) :: st) H := by
  intro Hh locs ls hP hD hS hl
  have hM := hM D K4 ad Hh.size
  rw [has] at hM
  have hf := V_free (ad := ad) (nr := nr) (H := H) hC hD hS
  refine va_callq (V_run hC hL hR hok hk hn hP hD hl hM hW hdg hcs) hS (fun q _ h => hf q h) hf (fun r1 u t H1 locs1 ht hvm hw hB hz1 hk1 hS1 => ?_)
  obtain ⟨rfl, rfl⟩ := hw
  obtain ⟨hP1, hD1⟩ := hB
  rw [ht] at hP1
  exact kk H1 locs1 ls hP1 (hD1.weaken (fun _ q _ h => hf q.1 h)) hS1 hl
theorem V_callsi (hC : Cx p s m args c A H0 D K4 nL own cc) {idx : Nat} {y : MethodName} {cy : ByteArray} {ny : Nat} {rt : Option FieldType} {n fr lc : Nat} {As : List Value} {as : (Nat → Nat → Nat) → List Value} {r : Int32} {H' : Hp} (hM : CI l nr y cy ny rt fr lc as H r H') (has : as ad = As) (hL : MS own idx y cy ny rt n) (hR : fr + 1 ≤ R.frames ∧ 8 + (ny + 11) + lc ≤ R.locals) (hn : As.length = n) (hW : (st.map fun v => v.category).sum ≤ 8) (hdg : decode cc pc = .ok (.invokestatic idx, 3)) (kk : V' p l e R s m args below meth c A H0 Q D K4 ad nr nL cs sl (pc + 3) lv (.int r :: st) H') (hcs : cs ≤ R.cells ∧ sl ≤ R.slots := by first | exact ⟨Nat.zero_le _, Nat.zero_le _⟩ | assumption) : V' p l e R s m args below meth c A H0 Q D K4 ad nr nL cs sl pc lv (As.reverse ++ st) H := by
  intro Hh locs ls hP hD hS hl
  have hM := hM D K4 ad Hh.size
  rw [has] at hM
  have hf := V_free (ad := ad) (nr := nr) (H := H) hC hD hS
  refine va_calli (V_runS hC hL hR hn hP hD hl hM hW hdg hcs) hS (fun q _ h => hf q h) hf (fun r1 u t H1 locs1 ht hvm hw hB hz1 hk1 hS1 => ?_)
  obtain ⟨rfl, rfl⟩ := hw
  obtain ⟨hP1, hD1⟩ := hB
  rw [ht] at hP1
  exact kk H1 locs1 ls hP1 (hD1.weaken (fun _ q _ h => hf q.1 h)) hS1 hl
/-- the ends -/
def QI (below : List Frame) (args : Array Value) (s : State) (A : Nat → Prop) (D : va_G) (K4 : kQ) (ad : Nat → Nat → Nat) (nr : Nat) (res : Int32 × Hp) : State → Prop := MQ below (va_Qi (fun q u => q = res.1 ∧ u = res.2) (Bw D K4 ad nr A) A) args s 0 0 A
def QJ (below : List Frame) (args : Array Value) (s : State) (A : Nat → Prop) (D : va_G) (K4 : kQ) (ad : Nat → Nat → Nat) (nr : Nat) (res : Int64 × Hp) : State → Prop := MQ below (va_Ql (fun q u => q = res.1 ∧ u = res.2) (Bw D K4 ad nr A) A) args s 0 0 A
def QU (below : List Frame) (args : Array Value) (s : State) (A : Nat → Prop) (D : va_G) (K4 : kQ) (ad : Nat → Nat → Nat) (nr : Nat) (res : Unit × Hp) : State → Prop := MQ below (va_Qv (fun u => u = res.2) (Bw D K4 ad nr A) A) args s 0 0 A
def QQ (below : List Frame) (args : Array Value) (s : State) (A : Nat → Prop) (D : va_G) (K4 : kQ) (ad : Nat → Nat → Nat) (nr : Nat) (res : Option Nat × Hp) : State → Prop := MQ below (va_Qq (fun q u => q = res.1.map (fun r => ad (r + 2) 0) ∧ u = res.2) (Bw D K4 ad nr A) A) args s 0 0 A
theorem V_iret (hC : Cx p s m args c A s.heap D K4 nL own cc) {v : Int32} {res : Int32 × Hp} (hr : meth.sig.returnType = some .int ∧ meth.locks = false) (hdg : decode cc pc = .ok (.ireturn, 1)) (h : some (v, H) = some res) : V p l e R s m args below meth c A s.heap (QI below args s A D K4 ad nr res) D K4 ad nr nL pc lv [.int v] H := by
  intro Hh locs ls hP hD hS hl
  have hlocks := hr.2
  cases h
  exact W.iret hC.1 hC.2.1 hr.1 (fun t ht _ => ⟨⟨v, H, rfl, ⟨rfl, rfl⟩, by rw [ht]; exact hP, hD⟩, hS.F ht⟩) hS.2.2 hdg
theorem V_zret (hC : Cx p s m args c A s.heap D K4 nL own cc) {v : Int32} {res : Int32 × Hp} (hr : meth.sig.returnType = some .boolean ∧ meth.locks = false) (hn : narrow .boolean (.int v) = .int v) (hdg : decode cc pc = .ok (.ireturn, 1)) (h : some (v, H) = some res) : V p l e R s m args below meth c A s.heap (QI below args s A D K4 ad nr res) D K4 ad nr nL pc lv [.int v] H := by
  intro Hh locs ls hP hD hS hl
  have hlocks := hr.2
  cases h
  exact W.zret hC.1 hC.2.1 hr.1 hn (fun t ht _ => ⟨⟨v, H, rfl, ⟨rfl, rfl⟩, by rw [ht]; exact hP, hD⟩, hS.F ht⟩) hS.2.2 hdg
theorem V_lret (hC : Cx p s m args c A s.heap D K4 nL own cc) {v : Int64} {res : Int64 × Hp} (hr : meth.sig.returnType = some .long ∧ meth.locks = false) (hdg : decode cc pc = .ok (.lreturn, 1)) (h : some (v, H) = some res) : V p l e R s m args below meth c A s.heap (QJ below args s A D K4 ad nr res) D K4 ad nr nL pc lv [.long v] H := by
  intro Hh locs ls hP hD hS hl
  have hlocks := hr.2
  cases h
  exact W.lret hC.1 hC.2.1 hr.1 (fun t ht _ => ⟨⟨v, H, rfl, ⟨rfl, rfl⟩, by rw [ht]; exact hP, hD⟩, hS.F ht⟩) hS.2.2 hdg
theorem V_vret (hC : Cx p s m args c A s.heap D K4 nL own cc) {res : Unit × Hp} (hr : meth.sig.returnType = none ∧ meth.locks = false) (hdg : decode cc pc = .ok (.return_, 1)) (h : some ((), H) = some res) : V p l e R s m args below meth c A s.heap (QU below args s A D K4 ad nr res) D K4 ad nr nL pc lv [] H := by
  intro Hh locs ls hP hD hS hl
  have hlocks := hr.2
  cases h
  exact W.vret hC.1 hC.2.1 hr.1 (fun t ht _ => ⟨⟨H, rfl, rfl, by rw [ht]; exact hP, hD⟩, hS.F ht⟩) hS.2.2 hdg
theorem V_qret (hC : Cx p s m args c A s.heap D K4 nL own cc) {o : Option Nat} {C : String} {res : Option Nat × Hp} (hr : meth.sig.returnType = some (.object C) ∧ meth.locks = false) (hdg : decode cc pc = .ok (.areturn, 1)) (h : some (o, H) = some res) : V p l e R s m args below meth c A s.heap (QQ below args s A D K4 ad nr res) D K4 ad nr nL pc lv [vr ad o] H := by
  intro Hh locs ls hP hD hS hl
  have hlocks := hr.2
  cases h
  exact W.aret hC.1 hC.2.1 hr.1 (Or.inl ⟨_, rfl⟩) (by cases o with | none => exact Or.inl rfl | some r => exact Or.inr ⟨_, rfl⟩) (fun t ht _ => ⟨⟨o.map (fun r => ad (r + 2) 0), H, rfl, ⟨rfl, rfl⟩, by rw [ht]; exact hP, hD⟩, hS.F ht⟩) hS.2.2 hdg
/-- a contract out of the walk from entry on -/
theorem Met.ofV {y : MethodName} {cy : ByteArray} {ny : Nat} {rt : Option FieldType} {fr lc sz : Nat} {as : List Value} {Qc : Array Value → State → Outcome → State → Prop} (hy : plainName y.cls = true) (hlen : (lg_sl as).length ≤ ny)
    (body : ∀ (p : Program) (e : Env) (s : State) (m : MethodId) (args : Array Value) (below : List Frame) (meth : Method) (c : Code), Cx p s m args c (va_A (wl K4 ad nr H) s.heap.size) s.heap D K4 ny y.cls cy → meth.sig.returnType = rt ∧ meth.locks = false → s.heap.size = sz → V p l e ({ frames := fr, cells := 0, slots := 0, locals := lc }) s m args below meth c (va_A (wl K4 ad nr H) s.heap.size) s.heap (MQ below Qc args s 0 0 (va_A (wl K4 ad nr H) sz)) D K4 ad nr ny 0 (lv_args 0 as) [] H) :
    Met l y (.code y cy ny rt :: GW) ({ frames := fr, cells := 0, slots := 0, locals := lc }) (PcW D K4 ad nr H sz as) Qc 0 0 (va_A (wl K4 ad nr H) sz) := by
  refine Met.ofW (cc := cy) (maxL := ny) (ret := rt) hy rfl ?_
  intro p e s m args below meth c s₁ B hml hv
  obtain ⟨rfl, hsz, hP, hK, hN, hD⟩ := hv
  have hts := atoms_spec (ws := (.code y cy ny rt :: GW)) B.pre
  have hown : s.vm.findClass y.cls = some m.cls := findClass_of_methodNamed B.named
  have hl := lv_entry as (n := ny) hlen
  rw [lg_entry_eq]
  exact body p e s m _ below meth c ⟨B.exec, B.bytes, hml, hown, fun w hw => hts w (List.mem_cons_of_mem _ hw), hK, hN, fun q h => Or.inr h⟩ ⟨B.returns, B.notSynchronized⟩ hsz s.heap [] _ hP hD.self va_S.rf hl

end
end
