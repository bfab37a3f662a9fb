/-- the law's start: what is made -/
def ix9 (k : Nat) : Nat := if k ≤ 26 then k - 1 else if k ≤ 33 then k - 5 else if k ≤ 42 then k - 6 else if k ≤ 46 then k - 7 else if k ≤ 51 then k - 8 else k - 9
def ix8 (k : Nat) : Nat := match k with
  | 1 => 0
  | 2 => 1
  | 3 => 5
  | 4 => 2
  | 5 => 3
  | 6 => 4
  | _ => k - 1
def ad00 (q8 q9 q11 : Nat) (u8 u9 : List Nat) (g k : Nat) : Nat := match g with
  | 0 => if k = 0 then q9 else u9.getD (ix9 k) 0
  | _ => if k = 0 then q8 else if k = 11 then q11 else u8.getD (ix8 k) 0
def pl00 : List Nat := (List.range 48).map (fun i => i + 11) ++ [0, 1, 2, 6, 3, 4, 5, 7, 8, 9, 10, 59]
def ws00 (K4 : kQ) (q8 q9 q11 : Nat) (u8 u9 : List Nat) : va_W := (((q8, .inr (8, Fn8 u8)) :: Cn8 K4 u8) ++ ((q9, .inr (9, Fn9 u9)) :: Cn9 K4 u9)) ++ [(q11, zc K4 1 1)]
set_option maxRecDepth 100000 in
theorem ws00_m (K4 : kQ) (q8 q9 q11 : Nat) (u8 u9 : List Nat) : pl00.map (fun i => (ws00 K4 q8 q9 q11 u8 u9)[i]?) = (wl K4 (ad00 q8 q9 q11 u8 u9) 0 H00).map some := rfl
theorem pl00_nd : va_nd pl00 = true := by decide +kernel
theorem fm_of_map {α : Type} {f : Nat → Option α} {l : List Nat} {r : List α} (h : l.map f = r.map some) : l.filterMap f = r := by
  induction l generalizing r with
  | nil =>
    cases r with
    | nil => rfl
    | cons a r => cases h
  | cons x l ih =>
    cases r with
    | nil => cases h
    | cons a r =>
      have h1 : f x = some a := (List.cons.inj h).1
      have h2 := ih (List.cons.inj h).2
      rw [List.filterMap_cons, h1, h2]
theorem nw_L_8 : ∀ w ∈ ([Cond.classLink RL 8 RX8, Cond.instantiable RX8 4, Cond.initialized RX8] : List Cond), w ∈ GW := gall (by decide +kernel) (by decide +kernel)
theorem nw_L_25 : ∀ w ∈ ([Cond.classLink RL 25 RX9, Cond.instantiable RX9 56, Cond.initialized RX9] : List Cond), w ∈ GW := gall (by decide +kernel) (by decide +kernel)
theorem dv8 : ∀ j, j < 4 → defaultValue (tyX8 j) = vp_V [.null, .null, .null, .int 0] j := by decide +kernel
theorem dv9 : ∀ j, j < 56 → defaultValue (tyX9 j) = vp_V [.int 0, .null, .null, .null, .null, .null, .null, .null, .null, .null, .null, .null, .null, .null, .null, .null, .null, .null, .null, .null, .null, .null, .null, .null, .null, .null, .null, .int 0, .int 0, .int 0, .int 0, .null, .null, .null, .int 0, .null, .null, .null, .null, .null, .null, .null, .null, .int 0, .null, .null, .null, .int 0, .null, .null, .null, .null, .int 0, .null, .null, .null] j := by decide +kernel
theorem li_L_24 : LI RL 24 yX8_init cX8_init 1 0 := ⟨Or.inl (gwm 85 (by decide +kernel) (by decide +kernel)), gall (by decide +kernel) (by decide +kernel), rfl, by decide +kernel, by decide +kernel, by decide +kernel⟩
theorem li_L_27 : LI RL 27 yX9_init cX9_init 1 0 := ⟨Or.inl (gwm 968 (by decide +kernel) (by decide +kernel)), gall (by decide +kernel) (by decide +kernel), rfl, by decide +kernel, by decide +kernel, by decide +kernel⟩
/-- from the world in the making to the world -/
theorem G_V {p : Program} {l : Launch} {e : Env} {R : Room} {s : State} {m : MethodId} {args : Array Value} {below : List Frame} {meth : Method} {c : Code} {A : Nat → Prop} {H0 : Heap} {Q : State → Prop} {D : va_G} {K4 : kQ} {ad : Nat → Nat → Nat} {nr nL cs sl : Nat} {pc : Nat} {lv : List (Nat × Value)} {st : List Value} {ws : va_W} {H : Hp} (pl : List Nat) (hn : va_nd pl = true) (hs : pl.map (fun i => ws[i]?) = (wl K4 ad nr H).map some) (kk : V' p l e R s m args below meth c A H0 Q D K4 ad nr nL cs sl pc lv st H) : G p l e R s m args below meth c A H0 Q D nL cs sl pc lv st ws :=
  fun Hh locs ls hP hD hS hl => kk Hh locs ls (hP.sub pl (fm_of_map hs)) (hD.sub pl hn hs) hS hl
theorem G_istore {p : Program} {l : Launch} {e : Env} {R : Room} {s : State} {m : MethodId} {args : Array Value} {below : List Frame} {meth : Method} {c : Code} {A : Nat → Prop} {H0 : Heap} {Q : State → Prop} {D : va_G} {K4 : kQ} {nL cs sl : Nat} {own : String} {cc : ByteArray} {pc : Nat} {lv lv' : List (Nat × Value)} {st : List Value} {ws : va_W} (hC : Cx p s m args c A H0 D K4 nL own cc) {i : Nat} {x : Int32} (hdg : decode cc pc = .ok (.istore i, 2)) (hn : i < nL) (hl' : (i, Value.int x) :: lv.filter (fun q => !(q.1 == i) && !(q.1 + 1 == i && q.2.category == 2)) = lv') (kk : G p l e R s m args below meth c A H0 Q D nL cs sl (pc + 2) lv' st ws) : G p l e R s m args below meth c A H0 Q D nL cs sl pc lv (.int x :: st) ws :=
  fun Hh locs ls hP hD hS hl => lv_istore hC.1 hC.2.1 hdg hl hn hl' (fun ls' hl2 => kk Hh locs ls' hP hD hS hl2)
set_option maxRecDepth 100000 in
set_option maxHeartbeats 4000000 in
theorem law_made {p : Program} {l : Launch} {e : Env} {s : State} {m : MethodId} {below : List Frame} {meth : Method} {c : Code} {A : Nat → Prop} {Q : State → Prop} {D : va_G} {K4 : kQ} {b : Nat} (hC : Cx p s m #[Value.ref b] c A s.heap D K4 8 RL cL_law) (hao : va_AO "CounterPlacer$Routine" s) (kk : ∀ ad : Nat → Nat → Nat, V' p l e room_1 s m #[Value.ref b] below meth c A s.heap Q D K4 ad 0 8 60 6326 23 [(0, .ref b), (1, .ref (ad 1 0)), (2, .ref (ad 0 0)), (3, .ref (ad 1 11)), (4, .int (nI (6 * 0)))] [] H00) : G p l e room_1 s m #[Value.ref b] below meth c A s.heap Q D 8 0 0 0 [(0, .ref b)] [] [] := by
  refine G_new (ci := 8) (fs := [.null, .null, .null, .int 0]) hC rfl uw8 tyX8_ok nw_L_8 dv8 ⟨Nat.le_of_ble_eq_true rfl, Nat.le_of_ble_eq_true rfl⟩ dL_law_0 (fun q8 => ?_)
  refine G_dup hC dL_law_3 rfl ?_
  refine G_ctor (ws := []) (av := []) (st := [.ref q8]) hC hao (k_X8_init l) li_L_24 ⟨Nat.le_of_ble_eq_true rfl, Nat.le_of_ble_eq_true rfl⟩ rfl (Nat.le_of_ble_eq_true rfl) ⟨Nat.le_of_ble_eq_true rfl, Nat.le_of_ble_eq_true rfl⟩ dL_law_4 (fun u8 hu8 => ?_)
  refine G_astore_n (lv' := [(1, .ref q8), (0, .ref b)]) hC dL_law_7 (by decide) rfl ?_
  refine G_eq (ws' := (q8, .inr (8, Fn8 u8)) :: Cn8 K4 u8) rfl ?_
  refine G_new (ci := 9) (fs := [.int 0, .null, .null, .null, .null, .null, .null, .null, .null, .null, .null, .null, .null, .null, .null, .null, .null, .null, .null, .null, .null, .null, .null, .null, .null, .null, .null, .int 0, .int 0, .int 0, .int 0, .null, .null, .null, .int 0, .null, .null, .null, .null, .null, .null, .null, .null, .int 0, .null, .null, .null, .int 0, .null, .null, .null, .null, .int 0, .null, .null, .null]) hC rfl uw9 tyX9_ok nw_L_25 dv9 ⟨Nat.le_of_ble_eq_true rfl, Nat.le_of_ble_eq_true rfl⟩ dL_law_8 (fun q9 => ?_)
  refine G_dup hC dL_law_11 rfl ?_
  refine G_ctor (ws := (q8, .inr (8, Fn8 u8)) :: Cn8 K4 u8) (av := []) (st := [.ref q9]) hC hao (k_X9_init l) li_L_27 ⟨Nat.le_of_ble_eq_true rfl, Nat.le_of_ble_eq_true rfl⟩ rfl (Nat.le_of_ble_eq_true rfl) ⟨Nat.le_of_ble_eq_true rfl, Nat.le_of_ble_eq_true rfl⟩ dL_law_12 (fun u9 hu9 => ?_)
  refine G_astore_n (lv' := [(2, .ref q9), (1, .ref q8), (0, .ref b)]) hC dL_law_15 (by decide) rfl ?_
  refine G_iconst (v := 1) hC dL_law_16 (by decide) ?_
  refine G_newJ (N' := 1) hC ac_J (by decide) (by decide) (by decide) ⟨Nat.le_of_ble_eq_true rfl, Nat.le_of_ble_eq_true rfl⟩ dL_law_17 (fun q11 => ?_)
  refine G_astore_n (lv' := [(3, .ref q11), (2, .ref q9), (1, .ref q8), (0, .ref b)]) hC dL_law_19 (by decide) rfl ?_
  refine G_iconst (v := 0) hC dL_law_20 (by decide) ?_
  refine G_istore (lv' := [(4, .int 0), (3, .ref q11), (2, .ref q9), (1, .ref q8), (0, .ref b)]) hC dL_law_21 (by decide) rfl ?_
  refine G_eq (ws' := ws00 K4 q8 q9 q11 u8 u9) rfl ?_
  refine G_V (H := H00) (ad := ad00 q8 q9 q11 u8 u9) (nr := 0) pl00 pl00_nd (ws00_m K4 q8 q9 q11 u8 u9) ?_
  refine V_lv (lv' := [(0, .ref b), (1, .ref q8), (2, .ref q9), (3, .ref q11), (4, .int 0)]) [4, 3, 2, 1, 0] rfl ?_
  exact kk (ad00 q8 q9 q11 u8 u9)
