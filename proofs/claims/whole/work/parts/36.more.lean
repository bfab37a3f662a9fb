/-- a routine more -/
def adx (ad : Nat → Nat → Nat) (nr : Nat) (u : List Nat) (g k : Nat) : Nat := if g = nr + 2 then u.getD k 0 else ad g k
def zr (H : Hp) (nr : Nat) (nn : Int32) : Hp := (fun g k i => if g = nr + 2 then (if k = 0 ∧ i = 0 then nn else 0) else H.1 g k i, fun g k i => if g = nr + 2 then 0 else H.2.1 g k i, fun g k i => if g = nr + 2 then none else H.2.2 g k i)
def zr0 (nn : Int32) : Hp := (fun _ k i => if k = 0 ∧ i = 0 then nn else 0, fun _ _ _ => 0, fun _ _ _ => none)
theorem cel_zr (K4 : kQ) (ad : Nat → Nat → Nat) (nr : Nat) (u : List Nat) (H : Hp) (nn : Int32) (k : Nat) : cel K4 (adx ad nr u) (zr H nr nn) (nr + 2) k = cel K4 (fun _ k => u.getD k 0) (zr0 nn) 2 k := by
  have h1 : (zr H nr nn).1 (nr + 2) k = (zr0 nn).1 2 k := by funext i; show (if nr + 2 = nr + 2 then _ else _) = _; rw [if_pos rfl]; rfl
  have h2 : (zr H nr nn).2.1 (nr + 2) k = (zr0 nn).2.1 2 k := by funext i; show (if nr + 2 = nr + 2 then _ else _) = _; rw [if_pos rfl]; rfl
  have h3 : (zr H nr nn).2.2 (nr + 2) k = (zr0 nn).2.2 2 k := by funext i; show (if nr + 2 = nr + 2 then _ else _) = _; rw [if_pos rfl]; rfl
  have h4 : ∀ ci, fls (adx ad nr u) (zr H nr nn) (nr + 2) k ci = fls (fun _ k => u.getD k 0) (zr0 nn) 2 k ci := by
    intro ci
    unfold fls
    congr 1
    funext j
    unfold fv
    rw [h1, h2]
    have h5 : adx ad nr u (rfn (nr + 2) k j).1 (rfn (nr + 2) k j).2 = u.getD (rf2 k j) 0 := by
      show (if nr + 2 = nr + 2 then _ else _) = _
      rw [if_pos rfl]; rfl
    rw [h5]; rfl
  unfold cel
  rw [h1, h2, h3]
  simp only [h4]
  show (match (kd2 k).1 with | 0 => _ | 1 => _ | 2 => _ | 3 => _ | ci + 4 => _) = (match (kd2 k).1 with | 0 => _ | 1 => _ | 2 => _ | 3 => _ | ci + 4 => _)
  rfl
theorem cel_old (K4 : kQ) (ad : Nat → Nat → Nat) (nr : Nat) (u : List Nat) (H : Hp) (nn : Int32) (hR : ∀ g k i r, gR H g k i = some r → r < nr) {g k : Nat} (hg : g ≠ nr + 2) : cel K4 (adx ad nr u) (zr H nr nn) g k = cel K4 ad H g k := by
  have h1 : (zr H nr nn).1 g k = H.1 g k := by funext i; show (if g = nr + 2 then _ else _) = _; rw [if_neg hg]
  have h2 : (zr H nr nn).2.1 g k = H.2.1 g k := by funext i; show (if g = nr + 2 then _ else _) = _; rw [if_neg hg]
  have h3 : (zr H nr nn).2.2 g k = H.2.2 g k := by funext i; show (if g = nr + 2 then _ else _) = _; rw [if_neg hg]
  have h4 : ∀ ci, fls (adx ad nr u) (zr H nr nn) g k ci = fls ad H g k ci := by
    intro ci
    unfold fls
    congr 1
    funext j
    unfold fv
    rw [h1, h2]
    have hg' : (rfn g k j).1 = g := by
      match g with
      | 0 => rfl
      | 1 => rfl
      | r + 2 => rfl
    have h5 : adx ad nr u (rfn g k j).1 (rfn g k j).2 = ad (rfn g k j).1 (rfn g k j).2 := by
      unfold adx
      rw [if_neg (by rw [hg']; exact hg)]
    rw [h5]
  have h6 : (fun i => (H.2.2 g k i).map (fun r => adx ad nr u (r + 2) 0)) = (fun i => (H.2.2 g k i).map (fun r => ad (r + 2) 0)) := by
    funext i
    cases hi : H.2.2 g k i with
    | none => rfl
    | some r =>
      have := hR g k i r hi
      show some (adx ad nr u (r + 2) 0) = _
      unfold adx
      rw [if_neg (by omega)]; rfl
  unfold cel
  rw [h1, h2, h3]
  simp only [h4, h6]
theorem nms_succ (nr : Nat) : nms (nr + 1) = nms nr ++ nmg2.map (fun k => (nr + 2, k)) := by
  unfold nms
  rw [List.range_succ, List.flatMap_append, List.append_assoc, List.append_assoc]
  simp
theorem nms_lt {nr g k : Nat} (h : (g, k) ∈ nms nr) : g ≠ nr + 2 := by
  unfold nms at h
  rcases List.mem_append.mp h with h | h
  · obtain ⟨a, -, e⟩ := List.mem_map.mp h
    cases e; omega
  · rcases List.mem_append.mp h with h | h
    · obtain ⟨a, -, e⟩ := List.mem_map.mp h
      cases e; omega
    · obtain ⟨a, ha, e⟩ := List.mem_flatMap.mp h
      obtain ⟨b, -, e⟩ := List.mem_map.mp e
      have := List.mem_range.mp ha
      cases e; omega
set_option maxRecDepth 100000 in
theorem cmd_eq (K4 : kQ) (nn : Int32) (u : List Nat) : nmg2.map (fun k => (u.getD k 0, cel K4 (fun _ k => u.getD k 0) (zr0 nn) 2 k)) = Cmd K4 nn u := rfl
theorem wl_ext (K4 : kQ) (ad : Nat → Nat → Nat) (nr : Nat) (u : List Nat) (H : Hp) (nn : Int32) (hR : ∀ g k i r, gR H g k i = some r → r < nr) : wl K4 (adx ad nr u) (nr + 1) (zr H nr nn) = wl K4 ad nr H ++ Cmd K4 nn u := by
  unfold wl
  rw [nms_succ, List.map_append]
  congr 1
  · apply List.map_congr_left
    intro n hn
    obtain ⟨g, k⟩ := n
    have hg := nms_lt hn
    show (adx ad nr u g k, _) = (ad g k, _)
    rw [cel_old K4 ad nr u H nn hR hg]
    unfold adx
    rw [if_neg hg]
  · rw [← cmd_eq, List.map_map]
    apply List.map_congr_left
    intro k _
    show (adx ad nr u (nr + 2) k, cel K4 (adx ad nr u) (zr H nr nn) (nr + 2) k) = _
    rw [cel_zr]
    unfold adx
    rw [if_pos rfl]
theorem ms_made : ∀ w ∈ ([.methodLink RX8 33 yX2_made, .static yX2_made, .initialized RX2, .code yX2_made cX2_made 2 (some (.object "CounterPlacer$Routine"))] : List Cond), w ∈ GW := gall (by decide +kernel) (by decide +kernel)
section
variable {p : Program} {l : Launch} {e : Env} {R : Room} {s : State} {m : MethodId} {args : Array Value} {below : List Frame} {meth : Method} {c : Code} {A : Nat → Prop} {H0 : Heap} {Q : State → Prop} {D : va_G} {K4 : kQ} {ad : Nat → Nat → Nat} {nr nL cs sl : Nat} {cc : ByteArray} {pc : Nat} {lv : List (Nat × Value)} {st : List Value} {H : Hp}
theorem V_made (hC : Cx p s m args c A H0 D K4 nL RX8 cc) (hao : va_AO "CounterPlacer$Routine" s) {nn : Int32} (hR : ∀ g k i r, gR H g k i = some r → r < nr) (hRm : 3 + 1 ≤ R.frames ∧ 8 + (2 + 11) + 56 ≤ R.locals) (hW : (st.map fun v => v.category).sum ≤ 8) (hcs : cs + 39 ≤ R.cells ∧ sl + 1095 ≤ R.slots) (hdg : decode cc pc = .ok (.invokestatic 33, 3)) (kk : ∀ u : List Nat, V' p l e R s m args below meth c A H0 Q D K4 (adx ad nr u) (nr + 1) nL (cs + 39) (sl + 1095) (pc + 3) lv (.ref (u.getD 0 0) :: st) (zr H nr nn)) : V' p l e R s m args below meth c A H0 Q D K4 ad nr nL cs sl pc lv (.int nn :: st) H := by
  intro Hh locs ls hP hD hS hl
  have e1 : ([] : List Nat).map (fun i => (wl K4 ad nr H)[i]?) = ([] : va_W).map some := rfl
  have hFc : ∀ x, va_A ([] : va_W) Hh.size x → A x := va_free (wc := ([] : va_W)) hD hS hC.2.2.2.2.2.2.2 [] e1
  have hG : GoodIn GW (va_wsS RX8 33 yX2_made (.code yX2_made cX2_made 2 (some (.object "CounterPlacer$Routine")) :: GW)) := gsub (fun w hw => by
    rcases List.mem_append.mp hw with q | q
    · exact ms_made w (by simp only [List.mem_cons, List.not_mem_nil, or_false] at q ⊢; rcases q with q | q | q <;> simp [q, yX2_made])
    · rcases List.mem_cons.mp q with q | q
      · exact ms_made w (by simp [q])
      · exact q)
  have hpre : PreS s Hh (va_Pc [.int nn] (PkB D K4 [] Hh.size)) [.int nn] := ⟨PkB_blind _ _ _ _ _, fun U hU hW2 => ⟨rfl, by rw [hU], fun k q h => by simp at h, va_K.moved hW2.alike hC.2.2.2.2.2.1, fun w hw => nw_warm hw hW2 (hC.2.2.2.2.2.2.1 w hw), ⟨fun i j p q h => by simp at h, fun k q h => by simp at h⟩, va_AO.moved hW2.alike hao⟩⟩
  refine va_callr (va_runS (As := [.int nn]) (rest := st) ⟨hC.1, hC.2.1, hC.2.2.1, hC.2.2.2.1, hC.2.2.2.2.1⟩ (k_made l nn D K4 Hh.size) (va_cwS 1 hC.2.2.2.2.1 hG rfl rfl rfl (by decide +kernel) hRm) hpre rfl rfl hl.1 rfl (lv_room hW) hdg hcs) hS (fun x _ h => hFc x h) hFc (fun u ra t H1 locs1 ht hvm hw hB hz1 hk1 hS1 => ?_)
  obtain ⟨hra, hP1, hD1⟩ := hB
  subst hra
  rw [ht] at hP1
  obtain ⟨hP2, hD2⟩ := va_join (wr := wl K4 ad nr H) (w1 := Cmd K4 nn u) hP hD [] (List.range (wl K4 ad nr H).length) e1 (by have := rng_all (wl K4 ad nr H) []; rwa [List.append_nil] at this) (va_nd_of List.nodup_range) (fun i _ h2 => by simp at h2) hk1 hFc hP1 hD1
  rw [← wl_ext K4 ad nr u H nn hR] at hP2 hD2
  exact kk u H1 locs1 ls hP2 hD2 hS1 hl
end
