/-- the classes, the arrays, the words at the law's start -/
theorem kn_of {s : State} {args : Array Value} (hts : ∀ w ∈ GW, w.before args s = true) (hi : ∀ (k : Nat) (q : vw_C), vwCl[k]? = some q → (Cond.instantiable q.1 q.2.2).before args s = true) : ∃ D : va_G, ∀ (k : Nat) (q : vw_C), vwCl[k]? = some q → u_Kn s q.1 q.2.1 q.2.2 (D.1 k) (D.2 k) := by
  have hu : ∀ (k : Nat) (q : vw_C), vwCl[k]? = some q → ∀ w ∈ u_ws q.1 q.2.1 q.2.2, w ∈ GW := by
    intro k q hq
    match k, hq with
    | 0, hq => cases hq; exact uw0
    | 1, hq => cases hq; exact uw1
    | 2, hq => cases hq; exact uw2
    | 3, hq => cases hq; exact uw3
    | 4, hq => cases hq; exact uw4
    | 5, hq => cases hq; exact uw5
    | 6, hq => cases hq; exact uw6
    | 7, hq => cases hq; exact uw7
    | 8, hq => cases hq; exact uw8
    | 9, hq => cases hq; exact uw9
    | k + 10, hq => simp at hq
  have h0 : ∀ k : Nat, ∃ D : ClassId × (Nat → Nat), ∀ q : vw_C, vwCl[k]? = some q → u_Kn s q.1 q.2.1 q.2.2 D.1 D.2 := by
    intro k
    cases hk : vwCl[k]? with
    | none => exact ⟨((Classical.choice ⟨0⟩ : ClassId), fun _ => 0), fun q hq => by cases hq⟩
    | some q =>
      obtain ⟨cC, iS, h⟩ := u_known (n := q.2.2) hts (hu k q hk) (hi k q hk)
      exact ⟨(cC, iS), fun q' hq' => by cases hq'; exact h⟩
  obtain ⟨F, hF⟩ := Classical.axiomOfChoice h0
  exact ⟨(fun k => (F k).1, fun k => (F k).2), fun k q hq => hF k q hq⟩
theorem arr_of {s : State} {args : Array Value} {ty : FieldType} (h : (Cond.arrayClass ty).before args s = true) (ho : ∀ C, ty ≠ .object C) : ∃ cA, ArrOfT s cA ty ∧ va_RA s cA ty := by
  obtain ⟨cA, kA, comp, h1, h2, h3⟩ := Cond.arrayClass_spec h
  refine ⟨cA, fun n z => ⟨fun k h => (by cases h), kA, h2, comp, h3⟩, ?_⟩
  unfold va_RA
  split
  · exact absurd rfl (ho _)
  · exact h1
theorem arrO_of {s : State} {C : String} (h : va_AO C s) : ∃ cA, ArrOfT s cA (.object C) ∧ va_RA s cA (.object C) := by
  obtain ⟨comp, c, k, h1, h2, h3, h4, h5⟩ := Cond.arrayOver_spec h
  exact ⟨c, fun n z => ⟨fun k h => (by cases h), k, h3, comp, h4⟩, k, comp, h3, h4, h1, h5⟩
theorem in_AO : Cond.arrayOver (.object "CounterPlacer$Routine") ∈ lw_tbl := List.mem_of_getElem? (i := 92) (by decide +kernel)
theorem in_u1 : Cond.laysStatic Bundle.tN "UNASSIGNED_STACK" Bundle.steD ∈ lw_tbl := List.mem_of_getElem? (i := 864) (by decide +kernel)
theorem in_u2 : Cond.laysStatic Bundle.tN "SUPPRESSED_SENTINEL" Bundle.listD ∈ lw_tbl := List.mem_of_getElem? (i := 866) (by decide +kernel)
theorem in_tN : Cond.initialized Bundle.tN ∈ lw_tbl := by decide +kernel
theorem in_inst : ∀ (k : Nat) (q : vw_C), vwCl[k]? = some q → Cond.instantiable q.1 q.2.2 ∈ lw_tbl := by
  intro k q hq
  match k, hq with
  | 0, hq => cases hq; decide +kernel
  | 1, hq => cases hq; decide +kernel
  | 2, hq => cases hq; decide +kernel
  | 3, hq => cases hq; decide +kernel
  | 4, hq => cases hq; decide +kernel
  | 5, hq => cases hq; decide +kernel
  | 6, hq => cases hq; decide +kernel
  | 7, hq => cases hq; decide +kernel
  | 8, hq => cases hq; decide +kernel
  | 9, hq => cases hq; decide +kernel
  | k + 10, hq => simp at hq
theorem in_strs : ∀ q ∈ strs, Cond.stringRef RX8 q.1 q.2 ∈ lw_tbl := by decide +kernel
set_option maxHeartbeats 4000000 in
theorem ex_strs {args : Array Value} {s : State} (h : (Jvm.Cond.and given_1 narrow_1).before args s = true) : ∀ q ∈ strs, ∃ a, (Term.string RX8 q.1).eval args s none [] s = some (.ref a) := by
  have hs := flat_of_before _ h
  have key : ∀ k, (Cond.exactly (.string RX8 k) "java/lang/String").before args s = true → ∃ a, (Term.string RX8 k).eval args s none [] s = some (.ref a) := by
    intro k hk
    obtain ⟨a, c, cA, kA, q1, q2, q3, q4, q5, q6, -⟩ := Cond.exactly_spec (args := args) (first := s) (o := none) (s := s) (idx := []) (t := .string RX8 k) (cls := "java/lang/String") hk
    exact ⟨a, q1⟩
  intro q hq
  simp only [strs, List.mem_cons, List.not_mem_nil, or_false] at hq
  rcases hq with rfl | rfl | rfl | rfl | rfl | rfl
  · exact key 93 (hs _ (by decide +kernel))
  · exact key 100 (hs _ (by decide +kernel))
  · exact key 107 (hs _ (by decide +kernel))
  · exact key 109 (hs _ (by decide +kernel))
  · exact key 121 (hs _ (by decide +kernel))
  · exact key 123 (hs _ (by decide +kernel))
theorem LPr_0 {args : Array Value} {s : State} (hts : ∀ w ∈ lw_tbl, w.before args s = true) (h : (Jvm.Cond.and given_1 narrow_1).before args s = true) : LPr (fun q : Nat => s.heap.size ≤ q) s s.heap := by
  have hs := flat_of_before _ h
  refine ⟨⟨fun w hw => va_Nw.of (xw_on (List.mem_filter.mp hw).2) (hts w (List.mem_filter.mp hw).1), ?_, ?_, fun q hq => ?_⟩, ?_⟩
  · exact vx_Zqof (hts _ in_u1) (hts _ in_tN) (hs _ (by decide +kernel)) (fun a ha hq => absurd hq (Nat.not_le.mpr ha))
  · exact vx_Zqof (hts _ in_u2) (hts _ in_tN) (hs _ (by decide +kernel)) (fun a ha hq => absurd hq (Nat.not_le.mpr ha))
  · obtain ⟨a, ha⟩ := ex_strs h q hq
    exact ⟨a, vk_R.of (hts _ (in_strs q hq)) ha⟩
  · exact va_Nc.of (args := args) (hs (Cond.not (.castable (xn 2) (xn 1))) (by decide +kernel))
set_option maxHeartbeats 4000000 in
/-- from the entry, for every script of at most 3072 ints, the law comes to its end with true -/
theorem whole_start {p : Program} {e : Env} {s : State} {m : MethodId} {below : List Frame} {meth : Method} {c : Code} (l : Launch) (hl : l.stackTraces = false) {b L : Nat} {xs : Nat → Int32} (hL : L ≤ 3072) (C0 : lw_At p s m meth c b L xs) : W p l e room_1 s m #[Value.ref b] below meth c s.heap [] 0 0 (lw_Z below #[Value.ref b] s) (entryFrame m ([Value.ref b] : List Value).toArray 8) := by
  obtain ⟨hx, hb, hr, hml, hown, hts, hX, hbl, hlocks, hgv⟩ := id C0
  have htG : ∀ w ∈ GW, w.before #[Value.ref b] s = true := fun w hw => hts w (List.mem_filter.mp hw).1
  have hao : va_AO "CounterPlacer$Routine" s := va_AO.of (hts _ in_AO)
  obtain ⟨D, hD⟩ := kn_of htG (fun k q hq => hts _ (in_inst k q hq))
  obtain ⟨k1, a1, b1⟩ := arr_of (htG _ ac_I) (fun C h => by cases h)
  obtain ⟨k2, a2, b2⟩ := arr_of (htG _ ac_J) (fun C h => by cases h)
  obtain ⟨k3, a3, b3⟩ := arr_of (htG _ ac_Z) (fun C h => by cases h)
  obtain ⟨k4, a4, b4⟩ := arrO_of hao
  have hK : va_K D vwCl (tys4 (k1, k2, k3, k4)) s := by
    refine ⟨hD, fun k q hq => ?_⟩
    match k, hq with
    | 0, hq => cases hq; exact ⟨a1, b1⟩
    | 1, hq => cases hq; exact ⟨a2, b2⟩
    | 2, hq => cases hq; exact ⟨a3, b3⟩
    | 3, hq => cases hq; exact ⟨a4, b4⟩
    | k + 4, hq => simp at hq
  have hC : Cx p s m #[Value.ref b] c (fun q : Nat => s.heap.size ≤ q) s.heap D (k1, k2, k3, k4) 8 RL cL_law := ⟨hx, hb, hml, hown, htG, hK, fun w hw => va_Nw.of (nw_on hw) (hts w (List.mem_filter.mp hw).1), fun q h => h⟩
  have hls := lv_entry ([.ref b]) (n := 8) (Nat.le_of_ble_eq_true rfl)
  rw [lg_entry_eq]
  have hG := law_made (Q := lw_Z below #[Value.ref b] s) (l := l) (e := e) (below := below) (meth := meth) hC hao (fun ad => law_loop hl hL hC hr hlocks hX hbl (LPr_0 hts hgv) hao 513 0 rfl (by omega) ad 0 60 6326 H00 iv_0 (by decide) (by decide))
  exact hG s.heap [] _ (fun k q h => by simp at h) ⟨fun i j p q h => by simp at h, fun k q h => by simp at h⟩ va_S.rf hls
theorem st_off {l : Launch} (h2 : l.flags = flags0) : l.stackTraces = false := by
  unfold Launch.stackTraces
  rw [h2]
  decide
set_option maxHeartbeats 4000000 in
theorem lw_walk (l : Launch) (hl : l.stackTraces = false) (b : Addr) (xs : List Int32) : MetFree l x (headSpec (Jvm.Cond.code x code maxLocals ret :: tables_1) room_1) (lw_P b xs) (fun _ _ _ _ _ => True) lw_Q := by
  refine MetFree.of_bodyS (code := code) (maxLocals := maxLocals) (ret := ret) (by decide) ?_ ?_
  · intro args s m h hn
    obtain ⟨meth, c, h1, h2, h3, h4, h5, h6, -, -⟩ := Cond.code_spec hn (atoms_spec (ws := Jvm.Cond.code x code maxLocals ret :: tables_1) h _ List.mem_cons_self)
    exact ⟨meth, c, h1, h2, h3, h4, h5, h6⟩
  · intro p e s m args below meth c s₁ B hml0 hP _
    obtain ⟨rfl, hx, hbd, hgv⟩ := hP
    obtain ⟨scr, harrAt, hlist, hof, hsmall⟩ := hx
    obtain ⟨hcb, hkn, -, -⟩ := State.arrayAt?_spec harrAt
    have hown : s.vm.findClass R_law = some m.cls := findClass_of_methodNamed B.named
    have hts0 : ∀ c ∈ (Jvm.Cond.code x code maxLocals ret :: tables_1), c.before #[Value.ref b] s = true := atoms_spec (ws := Jvm.Cond.code x code maxLocals ret :: tables_1) B.pre
    have hts : ∀ w ∈ lw_tbl, w.before #[Value.ref b] s = true := k2_hts_sels lw_privs (fun w hw => hts0 w (List.mem_cons_of_mem _ hw)) lw_privs_ok
    have hml : c.maxLocals = 8 := B.maxLocals_eq (hts0 _ List.mem_cons_self)
    have X₀ : Stand p l e room_1 s m #[Value.ref b] below meth c s₁ [] 0 0 := Stand.of_body B
    have hh0 : s₁.heap = s.heap := by rw [B.state]; rfl
    have hsz : scr.slots.size = xs.length := by rw [← Array.length_toList, hlist, List.length_map]
    have hval : ∀ j : Nat, j < xs.length → scr.slots[j]? = some (.int (xs.getD j 0)) := fun j hj => by
      rw [← Array.getElem?_toList, hlist]
      simp [hj]
    have hbl : b < s.heap.size := (Array.getElem?_eq_some_iff.mp hcb).1
    have hX : va_X b xs.length (fun j => xs.getD j 0) s s.heap := ⟨scr, hcb, hof, hkn, hsz, hval⟩
    have K : W p l e room_1 s m #[Value.ref b] below meth c s₁.heap [] 0 0 (lw_Z below #[Value.ref b] s) (entryFrame m ([Value.ref b] : List Value).toArray 8) := by
      rw [hh0]
      exact whole_start l hl hbd ⟨B.exec, B.bytes, B.returns, hml, hown, hts, hX, hbl, B.notSynchronized, hgv⟩
    obtain ⟨t, a1, o, b1, b2, b3⟩ := K s₁ rfl X₀
    exact ⟨t, o, a1, b1, b2, b3⟩
theorem lw_pre_spec {args : Array Value} {s : State} (h : (Jvm.Cond.and given_1 narrow_1).before args s = true) (hr : rest_1_c.before args s = true) : ∃ (b : Addr) (xs : List Int32), lw_P b xs args s := by
  have hs := flat_of_before _ h
  have hq := flat_of_before _ hr
  have hc : (Cond.count 1).before args s = true := hs _ (by decide +kernel)
  have harr : (Cond.arrayOf (.arg 0) .int).before args s = true := hs _ (by decide +kernel)
  have hle : (Cond.le (.length (.arg 0)) (.int 3072)).before args s = true := hs _ (by decide +kernel)
  have hlen : (Cond.isInt (.length (.arg 0))).before args s = true := hq _ (by decide +kernel)
  have hall : (Cond.all (.arg 0) (.isInt (.elem (.arg 0) (.index 0)))).before args s = true := hq _ (by decide +kernel)
  obtain ⟨b, xs, hb, hx⟩ := State.ints_of_pre rfl harr hlen hall
  have hsm : xs.length < 2 ^ 31 := hx.choose_spec.2.2.2
  have hev : (Term.length (.arg 0)).eval args s none [] s = some (.int xs.length.toInt32) := hx.length_eval hb
  have hv := Cond.le_ints hev (show (Term.int 3072).eval args s none [] s = some (.int 3072) from rfl)
  have hd : xs.length.toInt32 ≤ 3072 := by
    simpa [Cond.before, Cond.holds, hv] using hle
  have hN : xs.length ≤ 3072 := (Int32.ofNat_le_ofNat hsm (by decide)).mp (show Int32.ofNat xs.length ≤ Int32.ofNat 3072 from hd)
  exact ⟨b, xs, Cond.one_arg hc (show args[0]? = some (.ref b) from hb), hx, hN, h⟩
theorem lw_comes (l : Launch) (hl : l.stackTraces = false) : Comes l x (Jvm.Cond.code x code maxLocals ret :: tables_1) room_1 (fun tb e args s => Calls_1 tb e args s ∧ rest_1 tb e args s ∧ Pre_1 tb e args s)
    (fun _ _ args s o t => lw_Q args s o t) := by
  intro p e ha hc hk s m args below hf hfit hheap happ hpre
  obtain ⟨b, xs, hP⟩ := lw_pre_spec hpre.2.2 hpre.2.1
  obtain ⟨k, o, h1, h2, h3, hQ⟩ := lw_walk l hl b xs p e ha hc hk s m args below hf ((Spec.applies_iff_loose hf).mp happ).1 hP trivial
  exact ⟨k, o, h1, h2, h3, hQ⟩
theorem lw_frame {s t : State} {o : Outcome} {args : Array Value} (h : Framed s o t [] 601024 7293034) :
    Framed s o t (fieldLocs frame_1_writes args s ++ arrayLocs frame_1_arrays args s ++ staticLocs frame_1_statics s) 601024 7293034 := h
theorem lw_limb (L : Cond) (hL : ∀ (args : Array Value) (s t : State), L.after args s (.returned (some (.int 1))) t = true) :
    ArmFor flags0 classFile x code maxLocals ret World_1 tables_1 room_1 Calls_1 rest_1 Pre_1
      (fun tb e a s o t => postC L tb e a s o t ∧ Framed s o t (fieldLocs frame_1_writes a s ++ arrayLocs frame_1_arrays a s ++ staticLocs frame_1_statics s) 601024 7293034) := by
  intro l w1 _ _ p e ha hc hk s m args below hf hfit hheap happ hpre
  obtain ⟨k, o, h1, h2, h3, rfl, hF⟩ := lw_comes l (st_off w1) p e ha hc hk s m args below hf hfit hheap happ hpre
  exact ⟨k, _, h1, h2, h3, hL args s _, lw_frame hF⟩
theorem i_vc : Claimed_1_1 ∧ Claimed_1_2 := ⟨lw_limb limb_1_1 (fun args s t => by simp [limb_1_1, Cond.after, Cond.holds, Cond.value]), lw_limb limb_1_2 (fun args s t => Cond.after_iff.mpr (by
  first | (rw [show limb_1_2 = Cond.eq .result (.int 1) from rfl, Cond.eq_ints (x := 1) (y := 1) rfl rfl]; simp; done) | (simp [limb_1_2, Cond.value, Term.eval]; done)))⟩
