def R_law : String := "CounterPlacerLaw"
def lw_P (b : Addr) (xs : List Int32) (args : Array Value) (s : State) : Prop := args = #[.ref b] ∧ s.IntsAt b xs ∧ xs.length ≤ 3072 ∧ (Jvm.Cond.and given_1 narrow_1).before args s = true
def lw_Q (_ : Array Value) (s : State) (o : Outcome) (t : State) : Prop := o = .returned (some (.int 1)) ∧ Framed s o t [] 601024 7293034
def lw_Z (below : List Frame) (a : Array Value) (s : State) : State → Prop := fun t => ∃ o, t.status = .running ∧ Ended t below o ∧ lw_Q a s o t
/-- the law's own end, with 1 on the stack, nothing written that was there before, its room as the claim has it -/
theorem lw_ret {p : Program} {l : Launch} {e : Env} {s : State} {m : MethodId} {below : List Frame} {meth : Method} {c : Code} {b : Nat} (hx : p.tables.exec = Jvm.exec) (hb : c.code = code) (hr : meth.sig.returnType = ret) (hlocks : meth.locks = false) {pc : Nat} {H : Heap} {ls : Array Slot} (hdg : decode code pc = .ok (.ireturn, 1)) : W p l e room_1 s m #[Value.ref b] below meth c H [] 601024 7293034 (lw_Z below #[Value.ref b] s) (F0 m pc ls [.int 1]) := by
  intro T hT X
  obtain ⟨fs, hret, hrun, hended, hW, hframe⟩ := X.leave (v := some (.int 1)) (hlocks := hlocks) (fun h => by rw [hr] at h; cases h)
  have hmeth' : T.vm.method? m = some meth := X.method'
  refine ⟨T.setFrames fs, ?_, .returned (some (.int 1)), hrun, hended, rfl, ⟨_, rfl⟩, hW, hframe⟩
  jvm_step X.here [X.here.top, hx, hb, hdg, hmeth', hr, ret, narrow_b1]
  (try refine ⟨rfl, ?_⟩); (try refine ⟨rfl, ?_⟩)
  first | (intro acts; rw [hret _ acts rfl rfl rfl]) | rw [hret _ _ rfl rfl rfl]
  exact Steps.refl _
/-- what holds at the law's entry: the machine, the code, the tables' words (any of lw_tbl by 'hts w (by decide +kernel)'), the script of L ints xs at the cell b, what the Statement gives of the start (any of its parts by flat_of_before) -/
def lw_At (p : Program) (s : State) (m : MethodId) (meth : Method) (c : Code) (b L : Nat) (xs : Nat → Int32) : Prop :=
  p.tables.exec = Jvm.exec ∧ c.code = code ∧ meth.sig.returnType = ret ∧ c.maxLocals = 8 ∧ s.vm.findClass R_law = some m.cls ∧ (∀ w ∈ lw_tbl, w.before #[Value.ref b] s = true) ∧ va_X b L xs s s.heap ∧ b < s.heap.size ∧ meth.locks = false ∧ (Jvm.Cond.and given_1 narrow_1).before #[Value.ref b] s = true
section
variable {p : Program} {l : Launch} {e : Env} {R : Room} {s : State} {m : MethodId} {args : Array Value} {below : List Frame} {meth : Method} {c : Code} {A : Nat → Prop} {H0 : Heap} {Q : State → Prop} {D : va_G} {K4 : kQ} {ad : Nat → Nat → Nat} {nr nL cs sl : Nat} {own : String} {cc : ByteArray} {pc : Nat} {lv lv' : List (Nat × Value)} {st st' : List Value} {H H' : Hp}
theorem V_sld (hC : Cx p s m args c A H0 D K4 nL own cc) {b L : Nat} {xs : Nat → Int32} (hX : va_X b L xs s H0) (hbl : b < H0.size) (hbA : ¬ A b) {i : Int32} (hin : vp_in i L) (hdg : decode cc pc = .ok (.iaload, 1)) (kk : V' p l e R s m args below meth c A H0 Q D K4 ad nr nL cs sl (pc + 1) lv (.int (xs i.toNatClampNeg) :: st) H) : V' p l e R s m args below meth c A H0 Q D K4 ad nr nL cs sl pc lv (.int i :: .ref b :: st) H :=
  fun Hh locs ls hP hD hS hl => va_sld hC.1 hC.2.1 hX hbl hbA hS hin hdg (kk Hh locs ls hP hD hS hl)
theorem V_slen (hC : Cx p s m args c A H0 D K4 nL own cc) {b L : Nat} {xs : Nat → Int32} (hX : va_X b L xs s H0) (hbl : b < H0.size) (hbA : ¬ A b) (hdg : decode cc pc = .ok (.arraylength, 1)) (kk : V' p l e R s m args below meth c A H0 Q D K4 ad nr nL cs sl (pc + 1) lv (.int (Int32.ofNat L) :: st) H) : V' p l e R s m args below meth c A H0 Q D K4 ad nr nL cs sl pc lv (.ref b :: st) H :=
  fun Hh locs ls hP hD hS hl => va_slen hC.1 hC.2.1 hX hbl hbA hS hdg (kk Hh locs ls hP hD hS hl)
theorem V_lshl (hC : Cx p s m args c A H0 D K4 nL own cc) {x : Int64} {y : Int32} (hdg : decode cc pc = .ok (.lshl, 1)) (kk : V' p l e R s m args below meth c A H0 Q D K4 ad nr nL cs sl (pc + 1) lv (.long (x <<< (y.toInt64 &&& 63)) :: st) H) : V' p l e R s m args below meth c A H0 Q D K4 ad nr nL cs sl pc lv (.int y :: .long x :: st) H :=
  fun Hh locs ls hP hD hS hl => lv_lshl hC.1 hC.2.1 hdg rfl (kk Hh locs ls hP hD hS hl)
theorem LPr.warm {A B : Nat → Prop} {s U : State} {H H1 : Heap} (h : LPr A s H) (hW : s.WarmedH U.vm) (hk : ∀ a : Nat, a < H.size → ¬ A a → H1[a]? = H[a]?) (hAB : ∀ q, B q → A q) : LPr B U H1 := ⟨h.1.warm hW hk hAB, h.2.moved hW.alike⟩
/-- the law's own methods that catch -/
theorem V_callW (hC : Cx p s m args c A H0 D K4 nL RL cc) (hLP : LPr A s H0) {idx n mc ms fr lc ny : Nat} {y : MethodName} {cy : ByteArray} {hh : List (Nat × Nat × Nat × Nat)} {As : List Value} {r : Int32} (hM : ∀ sz, Met l y (.codeWith y cy ny (some .int) hh :: GW) ({ frames := fr, cells := mc, slots := ms, locals := lc }) (va_Pc As (fun U => PcB D K4 ad nr H sz U ∧ LPr (va_A (wl K4 ad nr H) sz) U U.heap)) (va_Qi (fun q u => q = r ∧ u = H') (Bw D K4 ad nr (va_A (wl K4 ad nr H) sz)) (va_A (wl K4 ad nr H) sz)) mc ms (va_A (wl K4 ad nr H) sz)) (hLk : ∀ w ∈ ([.methodLink RL idx y, .static y, .initialized y.cls, .codeWith y cy ny (some .int) hh] : List Cond), w ∈ GW) (hd : y.cls ≠ "java/lang/invoke/MethodHandle" ∧ y.cls ≠ "java/lang/invoke/VarHandle" ∧ (parseMethodDescriptor y.desc).map (fun d => d.parameters.length) = some n) (hR : fr + 1 ≤ R.frames ∧ 8 + (ny + 11) + lc ≤ R.locals) (hn : As.length = n) (hW : (st.map fun v => v.category).sum ≤ 8) (hdg : decode cc pc = .ok (.invokestatic idx, 3)) (hcs : cs + mc ≤ R.cells ∧ sl + ms ≤ R.slots) (kk : V' p l e R s m args below meth c A H0 Q D K4 ad nr nL (cs + mc) (sl + ms) (pc + 3) lv (.int r :: st) H') : V' p l e R s m args below meth c A H0 Q D K4 ad nr nL cs sl pc lv (As.reverse ++ st) H := by
  intro Hh locs ls hP hD hS hl
  have hf := V_free (ad := ad) (nr := nr) (H := H) hC hD hS
  have hG : GoodIn GW (va_wsS RL idx y (.codeWith y cy ny (some .int) hh :: GW)) := gsub (fun w hw => by
    rcases List.mem_append.mp hw with q | q
    · exact hLk w (by simp only [List.mem_cons, List.not_mem_nil, or_false] at q ⊢; rcases q with q | q | q <;> simp [q])
    · rcases List.mem_cons.mp q with q | q
      · exact hLk w (by simp [q])
      · exact q)
  have hblind : FrameBlind (va_Pc As (fun U => PcB D K4 ad nr H Hh.size U ∧ LPr (va_A (wl K4 ad nr H) Hh.size) U U.heap)) := by
    intro a U g mk q
    obtain ⟨q0, q1, q2⟩ := q
    exact ⟨q0, (PcW_blind D K4 ad nr H Hh.size _ a U g mk ⟨q0, q1⟩).2, q2.warm (U := U.calling g mk a) (State.WarmedH.refl U) (fun _ _ _ => rfl) (fun _ h => h)⟩
  refine va_calli (vx_runSW (As := As) (rest := st) ⟨hC.1, hC.2.1, hC.2.2.1, hC.2.2.2.1, hC.2.2.2.2.1⟩ (hM Hh.size) (vx_cwSW n hC.2.2.2.2.1 hG rfl rfl rfl hd hR) ⟨hblind, fun U hU hW2 => ⟨rfl, V_pre hC hP hD U hU hW2, by rw [hU]; exact hLP.warm hW2 (fun a ha hq => hS.2.1 a ha hq) hf⟩⟩ rfl hn hl.1 rfl (lv_room hW) hdg hcs) hS (fun q _ h => hf q h) hf (fun r1 u t H1 locs1 ht hvm hw hB hz1 hk1 hS1 => ?_)
  obtain ⟨rfl, rfl⟩ := hw
  obtain ⟨hP1, hD1⟩ := hB
  rw [ht] at hP1
  exact kk H1 locs1 ls hP1 (hD1.weaken (fun _ q _ h => hf q.1 h)) hS1 hl
/-- a routine more -/
theorem V_rout (hC : Cx p s m args c A H0 D K4 nL own cc) (hao : va_AO "CounterPlacer$Routine" s) {idx : Nat} (hL : ML own idx yX8_routine cX8_routine 1 (some .int) 8 0) (hnr : nr < 8) (hc : gI H 1 0 3 = nI nr) (hR : ∀ g k i r, gR H g k i = some r → r < nr) (hRm : 4 + 1 ≤ R.frames ∧ 8 + (1 + 11) + 77 ≤ R.locals) (hW : (st.map fun v => v.category).sum ≤ 8) (hdg : decode cc pc = .ok (.invokevirtual idx, 3)) (hcs : cs + 39 ≤ R.cells ∧ sl + 1095 ≤ R.slots) (kk : ∀ u : List Nat, V' p l e R s m args below meth c A H0 Q D K4 (adx ad nr u) (nr + 1) nL (cs + 39) (sl + 1095) (pc + 3) lv (.int (nI nr) :: st) (Hrt H nr)) : V' p l e R s m args below meth c A H0 Q D K4 ad nr nL cs sl pc lv (.ref (ad 1 0) :: st) H := by
  intro Hh locs ls hP hD hS hl
  have hf := V_free (ad := ad) (nr := nr) (H := H) hC hD hS
  obtain ⟨q0, hq, -⟩ := wl_get (K4 := K4) (ad := ad) (H := H) (nr := nr) (g := 1) (k := 0) rfl
  have hc8 : cel K4 ad H 1 0 = .inr (8, fls ad H 1 0 8) := rfl
  rw [hc8] at hq
  refine va_calli (va_runV (As := []) (rest := st) ⟨hC.1, hC.2.1, hC.2.2.1, hC.2.2.2.1, hC.2.2.2.2.1⟩ (k_routine l hnr hc hR D K4 ad Hh.size) (hL.cwX hC.2.2.2.2.1 hRm) ⟨PrB_blind _ _ _ _ _ _ _, va_recv hC.2.2.2.2.2.1 hP (ci := 8) (q0 := q0) rfl hq, fun U hU hW2 => ⟨rfl, V_pre hC hP hD U hU hW2, va_AO.moved hW2.alike hao⟩⟩ rfl rfl hl.1 rfl (lv_room hW) hdg hcs) hS (fun q _ h => hf q h) hf (fun r1 u t H1 locs1 ht hvm hw hB hz1 hk1 hS1 => ?_)
  obtain ⟨hP1, hD1⟩ := hB
  rw [ht] at hP1
  rw [hw]
  exact kk u H1 locs1 ls hP1 (hD1.weaken (fun _ q _ h => hf q.1 h)) hS1 hl
end
