/-- the law: routine() -/
theorem lc_routine {p : Program} {l : Launch} {e : Env} {s : State} {m : MethodId} {below : List Frame} {meth : Method} {c : Code} {A : Nat → Prop} {Q : State → Prop} {D : va_G} {K4 : kQ} {ad : Nat → Nat → Nat} {nr cs sl : Nat} {H : Hp} {b : Nat} {i : Int32} (hC : Cx p s m #[Value.ref b] c A s.heap D K4 8 RL cL_law) (hao : va_AO "CounterPlacer$Routine" s) (hc0 : cs ≤ room_1.cells ∧ sl ≤ room_1.slots) (hcs : nr < 8 → cs + 39 ≤ room_1.cells ∧ sl + 1095 ≤ room_1.slots) (hI : IV nr H) (kN : ∀ ad' nr' cs' sl' H', IV nr' H' → (nr' = nr ∧ cs' = cs ∧ sl' = sl ∨ nr' = nr + 1 ∧ nr < 8 ∧ cs' = cs + 39 ∧ sl' = sl + 1095) → V' p l e room_1 s m #[Value.ref b] below meth c A s.heap Q D K4 ad' nr' 8 cs' sl' 1110 [(0, .ref b), (1, .ref (ad' 1 0)), (2, .ref (ad' 0 0)), (3, .ref (ad' 1 11)), (4, .int i)] [] H') : V' p l e room_1 s m #[Value.ref b] below meth c A s.heap Q D K4 ad nr 8 cs sl 136 [(0, .ref b), (1, .ref (ad 1 0)), (2, .ref (ad 0 0)), (3, .ref (ad 1 11)), (4, .int i)] [] H := by
  have h8 : nr ≤ 8 := hI.1.1.1
  refine V_aload_n hC 1 dL_law_136 rfl ?_
  by_cases hn : nr < 8
  · obtain ⟨H2, e2, e3, hI2⟩ := iv_routine hI hn
    refine V_rout hC hao ml_W_28 hn e3 hI.2.1 ⟨Nat.le_of_ble_eq_true rfl, Nat.le_of_ble_eq_true rfl⟩ (Nat.le_of_ble_eq_true rfl) dL_law_137 (hcs hn) (fun u => ?_)
    have a1 : ∀ k, adx ad nr u 1 k = ad 1 k := fun k => if_neg (by omega)
    have a0 : ∀ k, adx ad nr u 0 k = ad 0 k := fun k => if_neg (by omega)
    refine V_eq (lv' := [(0, .ref b), (1, .ref (adx ad nr u 1 0)), (2, .ref (adx ad nr u 0 0)), (3, .ref (adx ad nr u 1 11)), (4, .int i)]) (st' := [.int (nI nr)]) (H' := Hrt H nr) (by rw [a1, a1, a0]) rfl rfl ?_
    refine V_aload_n hC 2 dL_law_140 rfl ?_
    refine V_calli (g := 0) (k := 0) (As := []) (st := [.int (nI nr)]) hC (c_X9_routine l e2) rfl ml_W_32 ⟨Nat.le_of_ble_eq_true rfl, Nat.le_of_ble_eq_true rfl⟩ rfl rfl rfl (Nat.le_of_ble_eq_true rfl) dL_law_141 ?_ (hcs hn)
    exact V_icmp_eq (tgt := 1110) hC dL_law_144 (by decide) (fun _ => kN _ _ _ _ H2 hI2 (.inr ⟨rfl, hn, rfl, rfl⟩)) (fun q => absurd rfl q)
  · have e8 : nr = 8 := by omega
    subst e8
    obtain ⟨H2, e2, e3, hI2⟩ := iv_routine8 hI
    refine V_calli (g := 1) (k := 0) (As := []) (st := []) hC (k_routine8 l e3) rfl ml_W_28 ⟨Nat.le_of_ble_eq_true rfl, Nat.le_of_ble_eq_true rfl⟩ rfl rfl rfl (Nat.le_of_ble_eq_true rfl) dL_law_137 ?_ hc0
    refine V_aload_n hC 2 dL_law_140 rfl ?_
    refine V_calli (g := 0) (k := 0) (As := []) (st := [.int (-1)]) hC (c_X9_routine l e2) rfl ml_W_32 ⟨Nat.le_of_ble_eq_true rfl, Nat.le_of_ble_eq_true rfl⟩ rfl rfl rfl (Nat.le_of_ble_eq_true rfl) dL_law_141 ?_ hc0
    exact V_icmp_eq (tgt := 1110) hC dL_law_144 (by decide) (fun _ => kN ad 8 cs sl H2 hI2 (.inl ⟨rfl, rfl, rfl⟩)) (fun q => absurd rfl q)
/-- the law's end -/
theorem lc_end {p : Program} {l : Launch} {e : Env} {s : State} {m : MethodId} {below : List Frame} {meth : Method} {c : Code} {D : va_G} {K4 : kQ} {ad : Nat → Nat → Nat} {nr cs sl : Nat} {H : Hp} {b : Nat} {lv : List (Nat × Value)} (hC : Cx p s m #[Value.ref b] c (fun q : Nat => s.heap.size ≤ q) s.heap D K4 8 RL cL_law) (hr : meth.sig.returnType = ret) (hlocks : meth.locks = false) (hc0 : cs ≤ 601024 ∧ sl ≤ 7293034) : V' p l e room_1 s m #[Value.ref b] below meth c (fun q : Nat => s.heap.size ≤ q) s.heap (lw_Z below #[Value.ref b] s) D K4 ad nr 8 cs sl 1116 lv [] H := by
  intro Hh locs ls hP hD hS hl
  refine lv_iconst (v := 1) hC.1 hC.2.1 dL_law_1116 (by decide) ?_
  refine va_forget (fun q hq => hS.2.2 q hq) ?_
  refine W.widen (k := 601024) (n := 7293034) hc0.1 hc0.2 ?_
  exact lw_ret hC.1 hC.2.1 hr hlocks dL_law_1117
set_option maxHeartbeats 4000000 in
set_option maxRecDepth 100000 in
/-- the law's loop -/
theorem law_loop {p : Program} {l : Launch} {e : Env} {s : State} {m : MethodId} {below : List Frame} {meth : Method} {c : Code} {D : va_G} {K4 : kQ} {b L : Nat} {xs : Nat → Int32} (hl : l.stackTraces = false) (hL : L ≤ 3072) (hC : Cx p s m #[Value.ref b] c (fun q : Nat => s.heap.size ≤ q) s.heap D K4 8 RL cL_law) (hr : meth.sig.returnType = ret) (hlocks : meth.locks = false) (hX : va_X b L xs s s.heap) (hbl : b < s.heap.size) (hLP : LPr (fun q : Nat => s.heap.size ≤ q) s s.heap) (hao : va_AO "CounterPlacer$Routine" s) : ∀ d j, j + d = 513 → j ≤ 512 → ∀ (ad : Nat → Nat → Nat) (nr cs sl : Nat) (H : Hp), IV nr H → cs + 39 * (8 - nr) + (512 - j) ≤ 601024 → sl + 1095 * (8 - nr) + 6 * (512 - j) ≤ 7293034 → V' p l e room_1 s m #[Value.ref b] below meth c (fun q : Nat => s.heap.size ≤ q) s.heap (lw_Z below #[Value.ref b] s) D K4 ad nr 8 cs sl 23 [(0, .ref b), (1, .ref (ad 1 0)), (2, .ref (ad 0 0)), (3, .ref (ad 1 11)), (4, .int (nI (6 * j)))] [] H := by
  have hbA : ¬ (fun q : Nat => s.heap.size ≤ q) b := Nat.not_le.mpr hbl
  have rc : room_1.cells = 601024 := rfl
  have rs : room_1.slots = 7293034 := rfl
  intro d
  induction d with
  | zero => intro j h1 h2; omega
  | succ d ih =>
    intro j hjd hj ad nr cs sl H hI hcs hsl
    have h8 : nr ≤ 8 := hI.1.1.1
    refine V_iload hC 4 dL_law_23 rfl ?_
    refine V_aload_n hC 0 dL_law_25 rfl ?_
    refine V_slen hC hX hbl hbA dL_law_26 ?_
    refine V_bipush (v := 6) hC dL_law_27 (by decide) ?_
    refine V_isub hC dL_law_29 ?_
    refine V_icmp_gt (tgt := 1116) hC dL_law_30 (by decide) (fun _ => ?_) (fun hc => ?_)
    · exact lc_end hC hr hlocks ⟨by omega, by omega⟩
    · have hlt : 6 * j + 6 ≤ L := by
        have e1 : (Int32.ofNat L) - 6 = zI ((L : Int) - 6) := by
          rw [show Int32.ofNat L = zI (L : Int) from zI_n L, show (6 : Int32) = zI 6 from rfl, zI_sub]
        rw [e1, zI_n, zI_lt (by omega) (by omega) (by omega) (by omega)] at hc
        omega
      have hin : ∀ k, k < 6 → vp_in (nI (6 * j + k)) L := fun k hk => vp_in_nI (by omega) (by omega)
      have h0 : vp_in (nI (6 * j)) L := hin 0 (by omega)
      have h1 : vp_in (nI (6 * j) + 1) L := by rw [show nI (6 * j) + 1 = nI (6 * j + 1) from nIadd _ 1]; exact hin 1 (by omega)
      have h2 : vp_in (nI (6 * j) + 2) L := by rw [show nI (6 * j) + 2 = nI (6 * j + 2) from nIadd _ 2]; exact hin 2 (by omega)
      have h3 : vp_in (nI (6 * j) + 3) L := by rw [show nI (6 * j) + 3 = nI (6 * j + 3) from nIadd _ 3]; exact hin 3 (by omega)
      have h4 : vp_in (nI (6 * j) + 4) L := by rw [show nI (6 * j) + 4 = nI (6 * j + 4) from nIadd _ 4]; exact hin 4 (by omega)
      have h5 : vp_in (nI (6 * j) + 5) L := by rw [show nI (6 * j) + 5 = nI (6 * j + 5) from nIadd _ 5]; exact hin 5 (by omega)
      have hcs1 : cs + 1 ≤ room_1.cells ∧ sl + 6 ≤ room_1.slots := ⟨by omega, by omega⟩
      have kG : ∀ (ad' : Nat → Nat → Nat) (nr' cs' sl' : Nat) (H' : Hp), IV nr' H' → cs' + 39 * (8 - nr') + (512 - (j + 1)) ≤ 601024 → sl' + 1095 * (8 - nr') + 6 * (512 - (j + 1)) ≤ 7293034 → V' p l e room_1 s m #[Value.ref b] below meth c (fun q : Nat => s.heap.size ≤ q) s.heap (lw_Z below #[Value.ref b] s) D K4 ad' nr' 8 cs' sl' 1110 [(0, .ref b), (1, .ref (ad' 1 0)), (2, .ref (ad' 0 0)), (3, .ref (ad' 1 11)), (4, .int (nI (6 * j)))] [] H' := by
        intro ad' nr' cs' sl' H' hI' hc' hs'
        refine V_iinc (v := nI (6 * (j + 1))) (lv' := [(4, .int (nI (6 * (j + 1)))), (0, .ref b), (1, .ref (ad' 1 0)), (2, .ref (ad' 0 0)), (3, .ref (ad' 1 11))]) hC 4 dL_law_1110 rfl (nIadd (6 * j) 6) (by decide) rfl ?_
        refine V_goto (tgt := 23) hC dL_law_1113 (by decide) ?_
        refine V_lv (lv' := [(0, .ref b), (1, .ref (ad' 1 0)), (2, .ref (ad' 0 0)), (3, .ref (ad' 1 11)), (4, .int (nI (6 * (j + 1))))]) [1, 2, 3, 4, 0] rfl ?_
        exact ih (j + 1) (by omega) (by omega) ad' nr' cs' sl' H' hI' hc' hs'
      have kN : ∀ cs' sl' H', cs' ≤ cs + 1 → sl' ≤ sl + 6 → IV nr H' → V' p l e room_1 s m #[Value.ref b] below meth c (fun q : Nat => s.heap.size ≤ q) s.heap (lw_Z below #[Value.ref b] s) D K4 ad nr 8 cs' sl' 1110 [(0, .ref b), (1, .ref (ad 1 0)), (2, .ref (ad 0 0)), (3, .ref (ad 1 11)), (4, .int (nI (6 * j)))] [] H' := fun cs' sl' H' q1 q2 q3 => kG ad nr cs' sl' H' q3 (by omega) (by omega)
      refine V_aload_n hC 0 dL_law_33 rfl ?_
      refine V_iload hC 4 dL_law_34 rfl ?_
      refine V_sld hC hX hbl hbA h0 dL_law_36 ?_
      refine V_bipush (v := 31) hC dL_law_37 (by decide) ?_
      refine V_iand hC dL_law_39 ?_
      generalize xs (nI (6 * j)).toNatClampNeg &&& 31 = z
      by_cases hz : z.toInt < 0 ∨ 19 < z.toInt
      · refine V_tabOut (tgt := 1110) hC dL_law_40 hz (by decide) ?_
        exact kN cs sl H (Nat.le_add_right _ _) (Nat.le_add_right _ _) hI
      · have g1 : ¬ z.toInt < 0 := fun q => hz (.inl q)
        have g2 : ¬ 19 < z.toInt := fun q => hz (.inr q)
        have hs : z.toInt = 0 ∨ z.toInt = 1 ∨ z.toInt = 2 ∨ z.toInt = 3 ∨ z.toInt = 4 ∨ z.toInt = 5 ∨ z.toInt = 6 ∨ z.toInt = 7 ∨ z.toInt = 8 ∨ z.toInt = 9 ∨ z.toInt = 10 ∨ z.toInt = 11 ∨ z.toInt = 12 ∨ z.toInt = 13 ∨ z.toInt = 14 ∨ z.toInt = 15 ∨ z.toInt = 16 ∨ z.toInt = 17 ∨ z.toInt = 18 ∨ z.toInt = 19 := by omega
        rcases hs with q | q | q | q | q | q | q | q | q | q | q | q | q | q | q | q | q | q | q | q
        · refine V_tabIn (tgt := 136) (off := 96) hC dL_law_40 g1 g2 (by rw [q]; rfl) (by decide) ?_
          exact lc_routine hC hao ⟨by omega, by omega⟩ (fun _ => ⟨by omega, by omega⟩) hI (fun ad' nr' cs' sl' H' hI' hq => kG ad' nr' cs' sl' H' hI' (by omega) (by omega))
        · refine V_tabIn (tgt := 149) (off := 109) hC dL_law_40 g1 g2 (by rw [q]; rfl) (by decide) ?_
          exact lc_block hC hX hbl hbA h1 h2 h3 h4 h5 hcs1 hI kN
        · refine V_tabIn (tgt := 198) (off := 158) hC dL_law_40 g1 g2 (by rw [q]; rfl) (by decide) ?_
          exact lc_edge hC hX hbl hbA h1 h2 h3 h4 h5 hcs1 hI kN
        · refine V_tabIn (tgt := 287) (off := 247) hC dL_law_40 g1 g2 (by rw [q]; rfl) (by decide) ?_
          exact lc_guess hC hX hbl hbA h1 h2 h3 h4 h5 hcs1 hI kN
        · refine V_tabIn (tgt := 336) (off := 296) hC dL_law_40 g1 g2 (by rw [q]; rfl) (by decide) ?_
          exact lc_finish hC hX hbl hbA h1 h2 h3 h4 h5 hcs1 hI kN
        · refine V_tabIn (tgt := 361) (off := 321) hC dL_law_40 g1 g2 (by rw [q]; rfl) (by decide) ?_
          exact lc_plan hC hX hbl hbA h1 h2 h3 h4 h5 hcs1 hI kN
        · refine V_tabIn (tgt := 386) (off := 346) hC dL_law_40 g1 g2 (by rw [q]; rfl) (by decide) ?_
          exact lc_look hC hX hbl hbA h1 h2 h3 h4 h5 hcs1 hI hLP hl kN
        · refine V_tabIn (tgt := 453) (off := 413) hC dL_law_40 g1 g2 (by rw [q]; rfl) (by decide) ?_
          exact lc_ofEdge hC hX hbl hbA h1 h2 h3 h4 h5 hcs1 hI hLP hl kN
        · refine V_tabIn (tgt := 532) (off := 492) hC dL_law_40 g1 g2 (by rw [q]; rfl) (by decide) ?_
          exact lc_ofBlock hC hX hbl hbA h1 h2 h3 h4 h5 hcs1 hI hLP hl kN
        · refine V_tabIn (tgt := 611) (off := 571) hC dL_law_40 g1 g2 (by rw [q]; rfl) (by decide) ?_
          exact lc_solve hC hX hbl hbA h1 h2 h3 h4 h5 hcs1 hI kN
        · refine V_tabIn (tgt := 649) (off := 609) hC dL_law_40 g1 g2 (by rw [q]; rfl) (by decide) ?_
          exact lc_ring hC hX hbl hbA h1 h2 h3 h4 h5 hcs1 hI kN
        · refine V_tabIn (tgt := 698) (off := 658) hC dL_law_40 g1 g2 (by rw [q]; rfl) (by decide) ?_
          exact lc_begin hC hX hbl hbA h1 h2 h3 h4 h5 hcs1 hI kN
        · refine V_tabIn (tgt := 723) (off := 683) hC dL_law_40 g1 g2 (by rw [q]; rfl) (by decide) ?_
          exact lc_go hC hX hbl hbA h1 h2 h3 h4 h5 hcs1 hI kN
        · refine V_tabIn (tgt := 760) (off := 720) hC dL_law_40 g1 g2 (by rw [q]; rfl) (by decide) ?_
          exact lc_run hC hX hbl hbA h1 h2 h3 h4 h5 hcs1 hI kN
        · refine V_tabIn (tgt := 785) (off := 745) hC dL_law_40 g1 g2 (by rw [q]; rfl) (by decide) ?_
          exact lc_way hC hX hbl hbA h1 h2 h3 h4 h5 hcs1 hI kN
        · refine V_tabIn (tgt := 866) (off := 826) hC dL_law_40 g1 g2 (by rw [q]; rfl) (by decide) ?_
          exact lc_along hC hX hbl hbA h1 h2 h3 h4 h5 hcs1 hI kN
        · refine V_tabIn (tgt := 947) (off := 907) hC dL_law_40 g1 g2 (by rw [q]; rfl) (by decide) ?_
          exact lc_table hC hX hbl hbA h1 h2 h3 h4 h5 hcs1 hI kN
        · refine V_tabIn (tgt := 997) (off := 957) hC dL_law_40 g1 g2 (by rw [q]; rfl) (by decide) ?_
          exact lc_told hC hX hbl hbA h1 h2 h3 h4 h5 hcs1 hI kN
        · refine V_tabIn (tgt := 1035) (off := 995) hC dL_law_40 g1 g2 (by rw [q]; rfl) (by decide) ?_
          exact lc_blur hC hX hbl hbA h1 h2 h3 h4 h5 hcs1 hI kN
        · refine V_tabIn (tgt := 1084) (off := 1044) hC dL_law_40 g1 g2 (by rw [q]; rfl) (by decide) ?_
          exact lc_mend hC hX hbl hbA h1 h2 h3 h4 h5 hcs1 hI kN
