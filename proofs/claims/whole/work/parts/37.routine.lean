theorem dX8_routine_0 : decode cX8_routine 0 = .ok (.aload_n 0, 1) := by decide +kernel
theorem dX8_routine_1 : decode cX8_routine 1 = .ok (.getfield 29, 3) := by decide +kernel
theorem dX8_routine_4 : decode cX8_routine 4 = .ok (.ifCond .lt 15, 3) := by decide +kernel
theorem dX8_routine_7 : decode cX8_routine 7 = .ok (.aload_n 0, 1) := by decide +kernel
theorem dX8_routine_8 : decode cX8_routine 8 = .ok (.getfield 29, 3) := by decide +kernel
theorem dX8_routine_11 : decode cX8_routine 11 = .ok (.aload_n 0, 1) := by decide +kernel
theorem dX8_routine_12 : decode cX8_routine 12 = .ok (.getfield 11, 3) := by decide +kernel
theorem dX8_routine_15 : decode cX8_routine 15 = .ok (.arraylength, 1) := by decide +kernel
theorem dX8_routine_16 : decode cX8_routine 16 = .ok (.if_icmp .lt 5, 3) := by decide +kernel
theorem dX8_routine_19 : decode cX8_routine 19 = .ok (.iconst (-1), 1) := by decide +kernel
theorem dX8_routine_20 : decode cX8_routine 20 = .ok (.ireturn, 1) := by decide +kernel
theorem dX8_routine_21 : decode cX8_routine 21 = .ok (.aload_n 0, 1) := by decide +kernel
theorem dX8_routine_22 : decode cX8_routine 22 = .ok (.getfield 11, 3) := by decide +kernel
theorem dX8_routine_25 : decode cX8_routine 25 = .ok (.aload_n 0, 1) := by decide +kernel
theorem dX8_routine_26 : decode cX8_routine 26 = .ok (.getfield 29, 3) := by decide +kernel
theorem dX8_routine_29 : decode cX8_routine 29 = .ok (.aload_n 0, 1) := by decide +kernel
theorem dX8_routine_30 : decode cX8_routine 30 = .ok (.getfield 29, 3) := by decide +kernel
theorem dX8_routine_33 : decode cX8_routine 33 = .ok (.invokestatic 33, 3) := by decide +kernel
theorem dX8_routine_36 : decode cX8_routine 36 = .ok (.aastore, 1) := by decide +kernel
theorem dX8_routine_37 : decode cX8_routine 37 = .ok (.aload_n 0, 1) := by decide +kernel
theorem dX8_routine_38 : decode cX8_routine 38 = .ok (.dup, 1) := by decide +kernel
theorem dX8_routine_39 : decode cX8_routine 39 = .ok (.getfield 29, 3) := by decide +kernel
theorem dX8_routine_42 : decode cX8_routine 42 = .ok (.iconst 1, 1) := by decide +kernel
theorem dX8_routine_43 : decode cX8_routine 43 = .ok (.iadd, 1) := by decide +kernel
theorem dX8_routine_44 : decode cX8_routine 44 = .ok (.putfield 29, 3) := by decide +kernel
theorem dX8_routine_47 : decode cX8_routine 47 = .ok (.aload_n 0, 1) := by decide +kernel
theorem dX8_routine_48 : decode cX8_routine 48 = .ok (.getfield 29, 3) := by decide +kernel
theorem dX8_routine_51 : decode cX8_routine 51 = .ok (.iconst 1, 1) := by decide +kernel
theorem dX8_routine_52 : decode cX8_routine 52 = .ok (.isub, 1) := by decide +kernel
theorem dX8_routine_53 : decode cX8_routine 53 = .ok (.ireturn, 1) := by decide +kernel
theorem fl_r29 : FL RX8 29 8 3 := ⟨RX8, TX8, 4, rfl, by decide, by decide, uw8, Or.inl (gwm 153 (by decide +kernel) (by decide +kernel))⟩
theorem fl_r11 : FL RX8 11 8 0 := ⟨RX8, TX8, 4, rfl, by decide, by decide, uw8, Or.inl (gwm 150 (by decide +kernel) (by decide +kernel))⟩
theorem fw_r29 : FW RX8 29 8 3 .int := ⟨RX8, TX8, 4, tyX8, rfl, by decide, by decide, uw8, Or.inl (gwm 153 (by decide +kernel) (by decide +kernel)), tyX8_ok, nmX8, rfl, by decide +kernel⟩
section
variable {p : Program} {l : Launch} {e : Env} {R : Room} {s : State} {m : MethodId} {args : Array Value} {below : List Frame} {meth : Method} {c : Code} {A : Nat → Prop} {H0 : Heap} {Q : State → Prop} {D : va_G} {K4 : kQ} {ad : Nat → Nat → Nat} {nr nL cs sl : Nat} {own : String} {cc : ByteArray} {pc : Nat} {lv lv' : List (Nat × Value)} {st st' : List Value} {H H' : Hp}
theorem V_eq (h1 : lv = lv') (h2 : st = st') (h3 : H = H') (kk : V' p l e R s m args below meth c A H0 Q D K4 ad nr nL cs sl pc lv' st' H') : V' p l e R s m args below meth c A H0 Q D K4 ad nr nL cs sl pc lv st H := by
  subst h1; subst h2; subst h3; exact kk
theorem V_ireta (hC : Cx p s m args c A s.heap D K4 nL own cc) {v : Int32} {S : Type} {post : Int32 → S → Prop} {B : S → State → Prop} (u : S) (hr : meth.sig.returnType = some .int ∧ meth.locks = false) (hdg : decode cc pc = .ok (.ireturn, 1)) (hp : post v u) (hB : ∀ t : State, va_P D vwCl (wl K4 ad nr H) t.heap → va_D A (wl K4 ad nr H) → B u t) : V' p l e R s m args below meth c A s.heap (MQ below (va_Qi post B A) args s cs sl A) D K4 ad nr nL cs sl pc lv [.int v] H := by
  intro Hh locs ls hP hD hS hl
  have hlocks := hr.2
  exact W.iret hC.1 hC.2.1 hr.1 (fun t ht _ => ⟨⟨v, u, rfl, hp, hB t (by rw [ht]; exact hP) hD⟩, hS.F ht⟩) hS.2.2 hdg
end
theorem nI8 : (8 : Int32) = nI 8 := rfl
def Hrt (H : Hp) (nr : Nat) : Hp := sI (sR (zr H nr (nI nr)) 1 1 nr (some nr)) 1 0 3 (nI (nr + 1))
def PrB (D : va_G) (K4 : kQ) (ad : Nat → Nat → Nat) (nr : Nat) (H : Hp) (sz : Nat) (U : State) : Prop := PcB D K4 ad nr H sz U ∧ va_AO "CounterPlacer$Routine" U
theorem PrB_blind (D : va_G) (K4 : kQ) (ad : Nat → Nat → Nat) (nr : Nat) (H : Hp) (sz : Nat) (as : List Value) : FrameBlind (va_Pc as (PrB D K4 ad nr H sz)) := by
  intro a U g mk q
  obtain ⟨q0, q1, q2⟩ := q
  exact ⟨q0, (PcW_blind D K4 ad nr H sz as a U g mk ⟨q0, q1⟩).2, va_AO.moved (u := U) (U := U.calling g mk a) (Vm.Alike.refl U.vm) q2⟩
set_option maxRecDepth 100000 in
set_option maxHeartbeats 4000000 in
/-- routine() where there are fewer than eight -/
theorem k_routine (l : Launch) {nr : Nat} {H : Hp} (hnr : nr < 8) (hc : gI H 1 0 3 = nI nr) (hR : ∀ g k i r, gR H g k i = some r → r < nr) (D : va_G) (K4 : kQ) (ad : Nat → Nat → Nat) (sz : Nat) : Met l yX8_routine (.code yX8_routine cX8_routine 1 (some .int) :: GW) ({ frames := 4, cells := 39, slots := 1095, locals := 77 }) (va_Pc [.ref (ad 1 0)] (PrB D K4 ad nr H sz)) (va_Qi (fun q (_ : List Nat) => q = nI nr) (fun u t => va_P D vwCl (wl K4 (adx ad nr u) (nr + 1) (Hrt H nr)) t.heap ∧ va_D (va_A (wl K4 ad nr H) sz) (wl K4 (adx ad nr u) (nr + 1) (Hrt H nr))) (va_A (wl K4 ad nr H) sz)) 39 1095 (va_A (wl K4 ad nr H) sz) := by
  refine Met.ofW (cc := cX8_routine) (maxL := 1) (ret := some .int) (by decide) rfl ?_
  intro p e s m args below meth c s₁ B hml hv
  obtain ⟨rfl, ⟨rfl, hP, hK, hN, hD⟩, hao⟩ := hv
  have hts := atoms_spec (ws := (.code yX8_routine cX8_routine 1 (some .int) :: GW)) B.pre
  have hown : s.vm.findClass RX8 = some m.cls := findClass_of_methodNamed B.named
  have hl := lv_entry [.ref (ad 1 0)] (n := 1) (Nat.le_of_ble_eq_true rfl)
  rw [lg_entry_eq]
  have hC : Cx p s m [Value.ref (ad 1 0)].toArray c (va_A (wl K4 ad nr H) s.heap.size) s.heap D K4 1 RX8 cX8_routine := ⟨B.exec, B.bytes, hml, hown, fun w hw => hts w (List.mem_cons_of_mem _ hw), hK, hN, fun q h => Or.inr h⟩
  have hret : meth.sig.returnType = some .int ∧ meth.locks = false := ⟨B.returns, B.notSynchronized⟩
  generalize [Value.ref (ad 1 0)].toArray = args at hC ⊢
  suffices hV : V' p l e ({ frames := 4, cells := 39, slots := 1095, locals := 77 }) s m args below meth c (va_A (wl K4 ad nr H) s.heap.size) s.heap (MQ below (va_Qi (fun q (_ : List Nat) => q = nI nr) (fun u t => va_P D vwCl (wl K4 (adx ad nr u) (nr + 1) (Hrt H nr)) t.heap ∧ va_D (va_A (wl K4 ad nr H) s.heap.size) (wl K4 (adx ad nr u) (nr + 1) (Hrt H nr))) (va_A (wl K4 ad nr H) s.heap.size)) args s 39 1095 (va_A (wl K4 ad nr H) s.heap.size)) D K4 ad nr 1 0 0 0 [(0, .ref (ad 1 0))] [] H by
    exact hV s.heap [] _ hP hD.self va_S.rf hl
  refine V_aload_n hC 0 dX8_routine_0 rfl ?_
  refine V_getI (g := 1) (k := 0) hC 8 3 fl_r29 rfl rfl rfl dX8_routine_1 ?_
  rw [hc]
  refine V_if_lt (tgt := 19) hC dX8_routine_4 (by decide) (fun h => absurd h (nI_pos (by omega))) (fun _ => ?_)
  refine V_aload_n hC 0 dX8_routine_7 rfl ?_
  refine V_getI (g := 1) (k := 0) hC 8 3 fl_r29 rfl rfl rfl dX8_routine_8 ?_
  rw [hc]
  refine V_aload_n hC 0 dX8_routine_11 rfl ?_
  refine V_getR (g := 1) (k := 0) (g' := 1) (k' := 1) hC 8 0 fl_r11 rfl rfl rfl rfl dX8_routine_12 ?_
  refine V_alen (g := 1) (k := 1) (v := 8) hC rfl rfl (by decide) (by decide) dX8_routine_15 ?_
  refine V_icmp_lt (tgt := 21) hC dX8_routine_16 (by decide) (fun _ => ?_) (fun h => absurd (by rw [nI8]; exact nI_lt hnr (by decide)) h)
  refine V_aload_n hC 0 dX8_routine_21 rfl ?_
  refine V_getR (g := 1) (k := 0) (g' := 1) (k' := 1) hC 8 0 fl_r11 rfl rfl rfl rfl dX8_routine_22 ?_
  refine V_aload_n hC 0 dX8_routine_25 rfl ?_
  refine V_getI (g := 1) (k := 0) hC 8 3 fl_r29 rfl rfl rfl dX8_routine_26 ?_
  rw [hc]
  refine V_aload_n hC 0 dX8_routine_29 rfl ?_
  refine V_getI (g := 1) (k := 0) hC 8 3 fl_r29 rfl rfl rfl dX8_routine_30 ?_
  rw [hc]
  refine V_made hC hao hR ⟨Nat.le_of_ble_eq_true rfl, Nat.le_of_ble_eq_true rfl⟩ (Nat.le_of_ble_eq_true rfl) ⟨Nat.le_of_ble_eq_true rfl, Nat.le_of_ble_eq_true rfl⟩ dX8_routine_33 (fun u => ?_)
  have a10 : ad 1 0 = adx ad nr u 1 0 := by unfold adx; rw [if_neg (by omega)]
  have a11 : ad 1 1 = adx ad nr u 1 1 := by unfold adx; rw [if_neg (by omega)]
  have aN : u.getD 0 0 = adx ad nr u (nr + 2) 0 := by unfold adx; rw [if_pos rfl]
  refine V_eq (lv' := [(0, .ref (adx ad nr u 1 0))]) (st' := [.ref (adx ad nr u (nr + 2) 0), .int (nI nr), .ref (adx ad nr u 1 1)]) (by rw [a10]) (by rw [aN, a11]) rfl ?_
  have hin : vp_in (nI nr) 8 := vp_in_nI hnr (by decide)
  refine V_aast (g := 1) (k := 1) hC rfl rfl (Nat.lt_succ_self nr) hin dX8_routine_36 ?_
  have h13 : gI (sR (zr H nr (nI nr)) 1 1 (nI nr).toNatClampNeg (some nr)) 1 0 3 = nI nr := by
    have : gI (sR (zr H nr (nI nr)) 1 1 (nI nr).toNatClampNeg (some nr)) 1 0 3 = gI (zr H nr (nI nr)) 1 0 3 := rfl
    rw [this]
    unfold gI zr
    dsimp only
    rw [if_neg (by omega)]; exact hc
  refine V_aload_n hC 0 dX8_routine_37 rfl ?_
  refine V_dup hC dX8_routine_38 rfl ?_
  refine V_getI (g := 1) (k := 0) hC 8 3 fl_r29 rfl rfl rfl dX8_routine_39 ?_
  rw [h13]
  refine V_iconst (v := 1) hC dX8_routine_42 (by decide) ?_
  refine V_iadd hC dX8_routine_43 ?_
  refine V_putI (g := 1) (k := 0) hC 8 3 .int fw_r29 rfl rfl rfl rfl rfl dX8_routine_44 ?_
  have hH : sI (sR (zr H nr (nI nr)) 1 1 (nI nr).toNatClampNeg (some nr)) 1 0 3 (nI nr + 1) = Hrt H nr := by
    rw [nI_clamp (by omega), ← nI_succ]; rfl
  rw [hH]
  have h14 : gI (Hrt H nr) 1 0 3 = nI (nr + 1) := by
    unfold Hrt gI sI
    dsimp only
    rw [if_pos ⟨rfl, rfl, rfl⟩]
  refine V_aload_n hC 0 dX8_routine_47 rfl ?_
  refine V_getI (g := 1) (k := 0) hC 8 3 fl_r29 rfl rfl rfl dX8_routine_48 ?_
  rw [h14]
  refine V_iconst (v := 1) hC dX8_routine_51 (by decide) ?_
  refine V_isub hC dX8_routine_52 ?_
  refine V_ireta (cs := 39) (sl := 1095) hC u hret dX8_routine_53 ?_ (fun t a b => ⟨a, b⟩)
  show nI (nr + 1) - 1 = nI nr
  rw [nI_succ]
  exact Int32.add_sub_cancel _ _
set_option maxRecDepth 100000 in
set_option maxHeartbeats 4000000 in
/-- routine() where there are eight -/
theorem k_routine8 (l : Launch) {nr : Nat} {H : Hp} (hc : gI H 1 0 3 = 8) : CI l nr yX8_routine cX8_routine 1 (some .int) 0 0 (fun ad => [.ref (ad 1 0)]) H (-1) H := by
  intro D K4 ad sz
  refine Met.ofV (by decide) (Nat.le_of_ble_eq_true rfl) ?_
  intro p e s m args below meth c hC hret hsz
  subst hsz
  show V p l e ({ frames := 0, cells := 0, slots := 0, locals := 0 }) s m args below meth c _ s.heap (QI below args s _ D K4 ad nr (-1, H)) D K4 ad nr 1 0 [(0, .ref (ad 1 0))] [] H
  refine V_aload_n hC 0 dX8_routine_0 rfl ?_
  refine V_getI (g := 1) (k := 0) hC 8 3 fl_r29 rfl rfl rfl dX8_routine_1 ?_
  rw [hc]
  refine V_if_lt (tgt := 19) hC dX8_routine_4 (by decide) (fun h => absurd h (by decide)) (fun _ => ?_)
  refine V_aload_n hC 0 dX8_routine_7 rfl ?_
  refine V_getI (g := 1) (k := 0) hC 8 3 fl_r29 rfl rfl rfl dX8_routine_8 ?_
  rw [hc]
  refine V_aload_n hC 0 dX8_routine_11 rfl ?_
  refine V_getR (g := 1) (k := 0) (g' := 1) (k' := 1) hC 8 0 fl_r11 rfl rfl rfl rfl dX8_routine_12 ?_
  refine V_alen (g := 1) (k := 1) (v := 8) hC rfl rfl (by decide) (by decide) dX8_routine_15 ?_
  refine V_icmp_lt (tgt := 21) hC dX8_routine_16 (by decide) (fun h => absurd h (by decide)) (fun _ => ?_)
  refine V_iconst (v := -1) hC dX8_routine_19 (by decide) ?_
  exact V_iret hC hret dX8_routine_20 rfl

