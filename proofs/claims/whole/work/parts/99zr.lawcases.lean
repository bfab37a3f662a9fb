theorem okLE {a b c : Nat} (h : a + c ≤ b) : a ≤ b := Nat.le_trans (Nat.le_add_right _ _) h
set_option maxRecDepth 100000 in
set_option maxHeartbeats 4000000 in
theorem lc_block {p : Program} {l : Launch} {e : Env} {s : State} {m : MethodId} {below : List Frame} {meth : Method} {c : Code} {A : Nat → Prop} {Q : State → Prop} {D : va_G} {K4 : kQ} {ad : Nat → Nat → Nat} {nr cs sl : Nat} {H : Hp} {b L : Nat} {xs : Nat → Int32} {i : Int32} (hC : Cx p s m #[Value.ref b] c A s.heap D K4 8 RL cL_law) (hX : va_X b L xs s s.heap) (hbl : b < s.heap.size) (hbA : ¬ A b) (h1 : vp_in (i + 1) L) (h2 : vp_in (i + 2) L) (h3 : vp_in (i + 3) L) (h4 : vp_in (i + 4) L) (h5 : vp_in (i + 5) L) (hcs : cs + 1 ≤ room_1.cells ∧ sl + 6 ≤ room_1.slots) (hI : IV nr H) (kN : ∀ cs' sl' H', cs' ≤ cs + 1 → sl' ≤ sl + 6 → IV nr H' → V' p l e room_1 s m #[Value.ref b] below meth c A s.heap Q D K4 ad nr 8 cs' sl' 1110 [(0, .ref b), (1, .ref (ad 1 0)), (2, .ref (ad 0 0)), (3, .ref (ad 1 11)), (4, .int i)] [] H') : V' p l e room_1 s m #[Value.ref b] below meth c A s.heap Q D K4 ad nr 8 cs sl 149 [(0, .ref b), (1, .ref (ad 1 0)), (2, .ref (ad 0 0)), (3, .ref (ad 1 11)), (4, .int i)] [] H := by
  have hc0 : cs ≤ room_1.cells ∧ sl ≤ room_1.slots := ⟨okLE hcs.1, okLE hcs.2⟩
  obtain ⟨v, H1, H2, e1, e2, hI2⟩ := iv_block hI ((xs (i + 1).toNatClampNeg)) ((xs (i + 2).toNatClampNeg)) ((xs (i + 3).toNatClampNeg))
  refine V_aload_n hC 1 dL_law_149 rfl ?_
  refine V_aload_n hC 0 dL_law_150 rfl ?_
  refine V_iload hC 4 dL_law_151 rfl ?_
  refine V_iconst (v := 1) hC dL_law_153 (by decide) ?_
  refine V_iadd hC dL_law_154 ?_
  refine V_sld hC hX hbl hbA h1 dL_law_155 ?_
  refine V_aload_n hC 0 dL_law_156 rfl ?_
  refine V_iload hC 4 dL_law_157 rfl ?_
  refine V_iconst (v := 2) hC dL_law_159 (by decide) ?_
  refine V_iadd hC dL_law_160 ?_
  refine V_sld hC hX hbl hbA h2 dL_law_161 ?_
  refine V_aload_n hC 0 dL_law_162 rfl ?_
  refine V_iload hC 4 dL_law_163 rfl ?_
  refine V_iconst (v := 3) hC dL_law_165 (by decide) ?_
  refine V_iadd hC dL_law_166 ?_
  refine V_sld hC hX hbl hbA h3 dL_law_167 ?_
  refine V_calli (g := 1) (k := 0) (As := [.int (xs (i + 1).toNatClampNeg), .int (xs (i + 2).toNatClampNeg), .int (xs (i + 3).toNatClampNeg)]) (st := []) hC (c_X8_block l e1) rfl ml_W_33 ⟨Nat.le_of_ble_eq_true rfl, Nat.le_of_ble_eq_true rfl⟩ rfl rfl rfl (Nat.le_of_ble_eq_true rfl) dL_law_168 ?_ hc0
  refine V_aload_n hC 2 dL_law_171 rfl ?_
  refine V_aload_n hC 0 dL_law_172 rfl ?_
  refine V_iload hC 4 dL_law_173 rfl ?_
  refine V_iconst (v := 1) hC dL_law_175 (by decide) ?_
  refine V_iadd hC dL_law_176 ?_
  refine V_sld hC hX hbl hbA h1 dL_law_177 ?_
  refine V_aload_n hC 0 dL_law_178 rfl ?_
  refine V_iload hC 4 dL_law_179 rfl ?_
  refine V_iconst (v := 2) hC dL_law_181 (by decide) ?_
  refine V_iadd hC dL_law_182 ?_
  refine V_sld hC hX hbl hbA h2 dL_law_183 ?_
  refine V_aload_n hC 0 dL_law_184 rfl ?_
  refine V_iload hC 4 dL_law_185 rfl ?_
  refine V_iconst (v := 3) hC dL_law_187 (by decide) ?_
  refine V_iadd hC dL_law_188 ?_
  refine V_sld hC hX hbl hbA h3 dL_law_189 ?_
  refine V_calli (g := 0) (k := 0) (As := [.int (xs (i + 1).toNatClampNeg), .int (xs (i + 2).toNatClampNeg), .int (xs (i + 3).toNatClampNeg)]) (st := [.int v]) hC (c_X9_block l e2) rfl ml_W_37 ⟨Nat.le_of_ble_eq_true rfl, Nat.le_of_ble_eq_true rfl⟩ rfl rfl rfl (Nat.le_of_ble_eq_true rfl) dL_law_190 ?_ hc0
  exact V_icmp_eq (tgt := 1110) hC dL_law_193 (by decide) (fun _ => kN cs sl H2 (Nat.le_add_right _ _) (Nat.le_add_right _ _) hI2) (fun q => absurd rfl q)
set_option maxRecDepth 100000 in
set_option maxHeartbeats 4000000 in
theorem lc_guess {p : Program} {l : Launch} {e : Env} {s : State} {m : MethodId} {below : List Frame} {meth : Method} {c : Code} {A : Nat → Prop} {Q : State → Prop} {D : va_G} {K4 : kQ} {ad : Nat → Nat → Nat} {nr cs sl : Nat} {H : Hp} {b L : Nat} {xs : Nat → Int32} {i : Int32} (hC : Cx p s m #[Value.ref b] c A s.heap D K4 8 RL cL_law) (hX : va_X b L xs s s.heap) (hbl : b < s.heap.size) (hbA : ¬ A b) (h1 : vp_in (i + 1) L) (h2 : vp_in (i + 2) L) (h3 : vp_in (i + 3) L) (h4 : vp_in (i + 4) L) (h5 : vp_in (i + 5) L) (hcs : cs + 1 ≤ room_1.cells ∧ sl + 6 ≤ room_1.slots) (hI : IV nr H) (kN : ∀ cs' sl' H', cs' ≤ cs + 1 → sl' ≤ sl + 6 → IV nr H' → V' p l e room_1 s m #[Value.ref b] below meth c A s.heap Q D K4 ad nr 8 cs' sl' 1110 [(0, .ref b), (1, .ref (ad 1 0)), (2, .ref (ad 0 0)), (3, .ref (ad 1 11)), (4, .int i)] [] H') : V' p l e room_1 s m #[Value.ref b] below meth c A s.heap Q D K4 ad nr 8 cs sl 287 [(0, .ref b), (1, .ref (ad 1 0)), (2, .ref (ad 0 0)), (3, .ref (ad 1 11)), (4, .int i)] [] H := by
  have hc0 : cs ≤ room_1.cells ∧ sl ≤ room_1.slots := ⟨okLE hcs.1, okLE hcs.2⟩
  obtain ⟨v, H1, H2, e1, e2, hI2⟩ := iv_guess hI ((xs (i + 1).toNatClampNeg)) ((xs (i + 2).toNatClampNeg)) ((xs (i + 3).toNatClampNeg))
  refine V_aload_n hC 1 dL_law_287 rfl ?_
  refine V_aload_n hC 0 dL_law_288 rfl ?_
  refine V_iload hC 4 dL_law_289 rfl ?_
  refine V_iconst (v := 1) hC dL_law_291 (by decide) ?_
  refine V_iadd hC dL_law_292 ?_
  refine V_sld hC hX hbl hbA h1 dL_law_293 ?_
  refine V_aload_n hC 0 dL_law_294 rfl ?_
  refine V_iload hC 4 dL_law_295 rfl ?_
  refine V_iconst (v := 2) hC dL_law_297 (by decide) ?_
  refine V_iadd hC dL_law_298 ?_
  refine V_sld hC hX hbl hbA h2 dL_law_299 ?_
  refine V_aload_n hC 0 dL_law_300 rfl ?_
  refine V_iload hC 4 dL_law_301 rfl ?_
  refine V_iconst (v := 3) hC dL_law_303 (by decide) ?_
  refine V_iadd hC dL_law_304 ?_
  refine V_sld hC hX hbl hbA h3 dL_law_305 ?_
  refine V_calli (g := 1) (k := 0) (As := [.int (xs (i + 1).toNatClampNeg), .int (xs (i + 2).toNatClampNeg), .int (xs (i + 3).toNatClampNeg)]) (st := []) hC (c_X8_guess l e1) rfl ml_W_43 ⟨Nat.le_of_ble_eq_true rfl, Nat.le_of_ble_eq_true rfl⟩ rfl rfl rfl (Nat.le_of_ble_eq_true rfl) dL_law_306 ?_ hc0
  refine V_aload_n hC 2 dL_law_309 rfl ?_
  refine V_aload_n hC 0 dL_law_310 rfl ?_
  refine V_iload hC 4 dL_law_311 rfl ?_
  refine V_iconst (v := 1) hC dL_law_313 (by decide) ?_
  refine V_iadd hC dL_law_314 ?_
  refine V_sld hC hX hbl hbA h1 dL_law_315 ?_
  refine V_aload_n hC 0 dL_law_316 rfl ?_
  refine V_iload hC 4 dL_law_317 rfl ?_
  refine V_iconst (v := 2) hC dL_law_319 (by decide) ?_
  refine V_iadd hC dL_law_320 ?_
  refine V_sld hC hX hbl hbA h2 dL_law_321 ?_
  refine V_aload_n hC 0 dL_law_322 rfl ?_
  refine V_iload hC 4 dL_law_323 rfl ?_
  refine V_iconst (v := 3) hC dL_law_325 (by decide) ?_
  refine V_iadd hC dL_law_326 ?_
  refine V_sld hC hX hbl hbA h3 dL_law_327 ?_
  refine V_calli (g := 0) (k := 0) (As := [.int (xs (i + 1).toNatClampNeg), .int (xs (i + 2).toNatClampNeg), .int (xs (i + 3).toNatClampNeg)]) (st := [.int v]) hC (c_X9_guess l e2) rfl ml_W_47 ⟨Nat.le_of_ble_eq_true rfl, Nat.le_of_ble_eq_true rfl⟩ rfl rfl rfl (Nat.le_of_ble_eq_true rfl) dL_law_328 ?_ hc0
  exact V_icmp_eq (tgt := 1110) hC dL_law_331 (by decide) (fun _ => kN cs sl H2 (Nat.le_add_right _ _) (Nat.le_add_right _ _) hI2) (fun q => absurd rfl q)
set_option maxRecDepth 100000 in
set_option maxHeartbeats 4000000 in
theorem lc_finish {p : Program} {l : Launch} {e : Env} {s : State} {m : MethodId} {below : List Frame} {meth : Method} {c : Code} {A : Nat → Prop} {Q : State → Prop} {D : va_G} {K4 : kQ} {ad : Nat → Nat → Nat} {nr cs sl : Nat} {H : Hp} {b L : Nat} {xs : Nat → Int32} {i : Int32} (hC : Cx p s m #[Value.ref b] c A s.heap D K4 8 RL cL_law) (hX : va_X b L xs s s.heap) (hbl : b < s.heap.size) (hbA : ¬ A b) (h1 : vp_in (i + 1) L) (h2 : vp_in (i + 2) L) (h3 : vp_in (i + 3) L) (h4 : vp_in (i + 4) L) (h5 : vp_in (i + 5) L) (hcs : cs + 1 ≤ room_1.cells ∧ sl + 6 ≤ room_1.slots) (hI : IV nr H) (kN : ∀ cs' sl' H', cs' ≤ cs + 1 → sl' ≤ sl + 6 → IV nr H' → V' p l e room_1 s m #[Value.ref b] below meth c A s.heap Q D K4 ad nr 8 cs' sl' 1110 [(0, .ref b), (1, .ref (ad 1 0)), (2, .ref (ad 0 0)), (3, .ref (ad 1 11)), (4, .int i)] [] H') : V' p l e room_1 s m #[Value.ref b] below meth c A s.heap Q D K4 ad nr 8 cs sl 336 [(0, .ref b), (1, .ref (ad 1 0)), (2, .ref (ad 0 0)), (3, .ref (ad 1 11)), (4, .int i)] [] H := by
  have hc0 : cs ≤ room_1.cells ∧ sl ≤ room_1.slots := ⟨okLE hcs.1, okLE hcs.2⟩
  obtain ⟨v, H1, H2, e1, e2, hI2⟩ := iv_finish hI ((xs (i + 1).toNatClampNeg))
  refine V_aload_n hC 1 dL_law_336 rfl ?_
  refine V_aload_n hC 0 dL_law_337 rfl ?_
  refine V_iload hC 4 dL_law_338 rfl ?_
  refine V_iconst (v := 1) hC dL_law_340 (by decide) ?_
  refine V_iadd hC dL_law_341 ?_
  refine V_sld hC hX hbl hbA h1 dL_law_342 ?_
  refine V_calli (g := 1) (k := 0) (As := [.int (xs (i + 1).toNatClampNeg)]) (st := []) hC (c_X8_finish l e1) rfl ml_W_48 ⟨Nat.le_of_ble_eq_true rfl, Nat.le_of_ble_eq_true rfl⟩ rfl rfl rfl (Nat.le_of_ble_eq_true rfl) dL_law_343 ?_ hc0
  refine V_aload_n hC 2 dL_law_346 rfl ?_
  refine V_aload_n hC 0 dL_law_347 rfl ?_
  refine V_iload hC 4 dL_law_348 rfl ?_
  refine V_iconst (v := 1) hC dL_law_350 (by decide) ?_
  refine V_iadd hC dL_law_351 ?_
  refine V_sld hC hX hbl hbA h1 dL_law_352 ?_
  refine V_calli (g := 0) (k := 0) (As := [.int (xs (i + 1).toNatClampNeg)]) (st := [.int v]) hC (c_X9_finish l e2) rfl ml_W_52 ⟨Nat.le_of_ble_eq_true rfl, Nat.le_of_ble_eq_true rfl⟩ rfl rfl rfl (Nat.le_of_ble_eq_true rfl) dL_law_353 ?_ hc0
  exact V_icmp_eq (tgt := 1110) hC dL_law_356 (by decide) (fun _ => kN cs sl H2 (Nat.le_add_right _ _) (Nat.le_add_right _ _) hI2) (fun q => absurd rfl q)
set_option maxRecDepth 100000 in
set_option maxHeartbeats 4000000 in
theorem lc_plan {p : Program} {l : Launch} {e : Env} {s : State} {m : MethodId} {below : List Frame} {meth : Method} {c : Code} {A : Nat → Prop} {Q : State → Prop} {D : va_G} {K4 : kQ} {ad : Nat → Nat → Nat} {nr cs sl : Nat} {H : Hp} {b L : Nat} {xs : Nat → Int32} {i : Int32} (hC : Cx p s m #[Value.ref b] c A s.heap D K4 8 RL cL_law) (hX : va_X b L xs s s.heap) (hbl : b < s.heap.size) (hbA : ¬ A b) (h1 : vp_in (i + 1) L) (h2 : vp_in (i + 2) L) (h3 : vp_in (i + 3) L) (h4 : vp_in (i + 4) L) (h5 : vp_in (i + 5) L) (hcs : cs + 1 ≤ room_1.cells ∧ sl + 6 ≤ room_1.slots) (hI : IV nr H) (kN : ∀ cs' sl' H', cs' ≤ cs + 1 → sl' ≤ sl + 6 → IV nr H' → V' p l e room_1 s m #[Value.ref b] below meth c A s.heap Q D K4 ad nr 8 cs' sl' 1110 [(0, .ref b), (1, .ref (ad 1 0)), (2, .ref (ad 0 0)), (3, .ref (ad 1 11)), (4, .int i)] [] H') : V' p l e room_1 s m #[Value.ref b] below meth c A s.heap Q D K4 ad nr 8 cs sl 361 [(0, .ref b), (1, .ref (ad 1 0)), (2, .ref (ad 0 0)), (3, .ref (ad 1 11)), (4, .int i)] [] H := by
  have hc0 : cs ≤ room_1.cells ∧ sl ≤ room_1.slots := ⟨okLE hcs.1, okLE hcs.2⟩
  obtain ⟨v, H1, H2, e1, e2, hI2⟩ := iv_plan hI ((xs (i + 1).toNatClampNeg))
  refine V_aload_n hC 1 dL_law_361 rfl ?_
  refine V_aload_n hC 0 dL_law_362 rfl ?_
  refine V_iload hC 4 dL_law_363 rfl ?_
  refine V_iconst (v := 1) hC dL_law_365 (by decide) ?_
  refine V_iadd hC dL_law_366 ?_
  refine V_sld hC hX hbl hbA h1 dL_law_367 ?_
  refine V_calli (g := 1) (k := 0) (As := [.int (xs (i + 1).toNatClampNeg)]) (st := []) hC (c_X8_plan l e1) rfl ml_W_53 ⟨Nat.le_of_ble_eq_true rfl, Nat.le_of_ble_eq_true rfl⟩ rfl rfl rfl (Nat.le_of_ble_eq_true rfl) dL_law_368 ?_ hc0
  refine V_aload_n hC 2 dL_law_371 rfl ?_
  refine V_aload_n hC 0 dL_law_372 rfl ?_
  refine V_iload hC 4 dL_law_373 rfl ?_
  refine V_iconst (v := 1) hC dL_law_375 (by decide) ?_
  refine V_iadd hC dL_law_376 ?_
  refine V_sld hC hX hbl hbA h1 dL_law_377 ?_
  refine V_calli (g := 0) (k := 0) (As := [.int (xs (i + 1).toNatClampNeg)]) (st := [.int v]) hC (c_X9_plan l e2) rfl ml_W_56 ⟨Nat.le_of_ble_eq_true rfl, Nat.le_of_ble_eq_true rfl⟩ rfl rfl rfl (Nat.le_of_ble_eq_true rfl) dL_law_378 ?_ hc0
  exact V_icmp_eq (tgt := 1110) hC dL_law_381 (by decide) (fun _ => kN cs sl H2 (Nat.le_add_right _ _) (Nat.le_add_right _ _) hI2) (fun q => absurd rfl q)
set_option maxRecDepth 100000 in
set_option maxHeartbeats 4000000 in
theorem lc_solve {p : Program} {l : Launch} {e : Env} {s : State} {m : MethodId} {below : List Frame} {meth : Method} {c : Code} {A : Nat → Prop} {Q : State → Prop} {D : va_G} {K4 : kQ} {ad : Nat → Nat → Nat} {nr cs sl : Nat} {H : Hp} {b L : Nat} {xs : Nat → Int32} {i : Int32} (hC : Cx p s m #[Value.ref b] c A s.heap D K4 8 RL cL_law) (hX : va_X b L xs s s.heap) (hbl : b < s.heap.size) (hbA : ¬ A b) (h1 : vp_in (i + 1) L) (h2 : vp_in (i + 2) L) (h3 : vp_in (i + 3) L) (h4 : vp_in (i + 4) L) (h5 : vp_in (i + 5) L) (hcs : cs + 1 ≤ room_1.cells ∧ sl + 6 ≤ room_1.slots) (hI : IV nr H) (kN : ∀ cs' sl' H', cs' ≤ cs + 1 → sl' ≤ sl + 6 → IV nr H' → V' p l e room_1 s m #[Value.ref b] below meth c A s.heap Q D K4 ad nr 8 cs' sl' 1110 [(0, .ref b), (1, .ref (ad 1 0)), (2, .ref (ad 0 0)), (3, .ref (ad 1 11)), (4, .int i)] [] H') : V' p l e room_1 s m #[Value.ref b] below meth c A s.heap Q D K4 ad nr 8 cs sl 611 [(0, .ref b), (1, .ref (ad 1 0)), (2, .ref (ad 0 0)), (3, .ref (ad 1 11)), (4, .int i)] [] H := by
  have hc0 : cs ≤ room_1.cells ∧ sl ≤ room_1.slots := ⟨okLE hcs.1, okLE hcs.2⟩
  obtain ⟨v, H1, H2, e1, e2, hI2⟩ := iv_solve hI ((xs (i + 1).toNatClampNeg)) ((xs (i + 2).toNatClampNeg))
  refine V_aload_n hC 1 dL_law_611 rfl ?_
  refine V_aload_n hC 0 dL_law_612 rfl ?_
  refine V_iload hC 4 dL_law_613 rfl ?_
  refine V_iconst (v := 1) hC dL_law_615 (by decide) ?_
  refine V_iadd hC dL_law_616 ?_
  refine V_sld hC hX hbl hbA h1 dL_law_617 ?_
  refine V_aload_n hC 0 dL_law_618 rfl ?_
  refine V_iload hC 4 dL_law_619 rfl ?_
  refine V_iconst (v := 2) hC dL_law_621 (by decide) ?_
  refine V_iadd hC dL_law_622 ?_
  refine V_sld hC hX hbl hbA h2 dL_law_623 ?_
  refine V_calll (g := 1) (k := 0) (As := [.int (xs (i + 1).toNatClampNeg), .int (xs (i + 2).toNatClampNeg)]) (st := []) hC (c_X8_solve l e1) rfl ml_W_73 ⟨Nat.le_of_ble_eq_true rfl, Nat.le_of_ble_eq_true rfl⟩ rfl rfl rfl (Nat.le_of_ble_eq_true rfl) dL_law_624 ?_ hc0
  refine V_aload_n hC 2 dL_law_627 rfl ?_
  refine V_aload_n hC 0 dL_law_628 rfl ?_
  refine V_iload hC 4 dL_law_629 rfl ?_
  refine V_iconst (v := 1) hC dL_law_631 (by decide) ?_
  refine V_iadd hC dL_law_632 ?_
  refine V_sld hC hX hbl hbA h1 dL_law_633 ?_
  refine V_aload_n hC 0 dL_law_634 rfl ?_
  refine V_iload hC 4 dL_law_635 rfl ?_
  refine V_iconst (v := 2) hC dL_law_637 (by decide) ?_
  refine V_iadd hC dL_law_638 ?_
  refine V_sld hC hX hbl hbA h2 dL_law_639 ?_
  refine V_calll (g := 0) (k := 0) (As := [.int (xs (i + 1).toNatClampNeg), .int (xs (i + 2).toNatClampNeg)]) (st := [.long v]) hC (c_X9_solve l e2) rfl ml_W_76 ⟨Nat.le_of_ble_eq_true rfl, Nat.le_of_ble_eq_true rfl⟩ rfl rfl rfl (Nat.le_of_ble_eq_true rfl) dL_law_640 ?_ hc0
  refine V_lcmp hC dL_law_643 ?_
  exact V_if_eq (tgt := 1110) hC dL_law_644 (by decide) (fun _ => kN cs sl H2 (Nat.le_add_right _ _) (Nat.le_add_right _ _) hI2) (fun q => absurd ((lg_cmp_eq _ _).mpr rfl) q)
set_option maxRecDepth 100000 in
set_option maxHeartbeats 4000000 in
theorem lc_ring {p : Program} {l : Launch} {e : Env} {s : State} {m : MethodId} {below : List Frame} {meth : Method} {c : Code} {A : Nat → Prop} {Q : State → Prop} {D : va_G} {K4 : kQ} {ad : Nat → Nat → Nat} {nr cs sl : Nat} {H : Hp} {b L : Nat} {xs : Nat → Int32} {i : Int32} (hC : Cx p s m #[Value.ref b] c A s.heap D K4 8 RL cL_law) (hX : va_X b L xs s s.heap) (hbl : b < s.heap.size) (hbA : ¬ A b) (h1 : vp_in (i + 1) L) (h2 : vp_in (i + 2) L) (h3 : vp_in (i + 3) L) (h4 : vp_in (i + 4) L) (h5 : vp_in (i + 5) L) (hcs : cs + 1 ≤ room_1.cells ∧ sl + 6 ≤ room_1.slots) (hI : IV nr H) (kN : ∀ cs' sl' H', cs' ≤ cs + 1 → sl' ≤ sl + 6 → IV nr H' → V' p l e room_1 s m #[Value.ref b] below meth c A s.heap Q D K4 ad nr 8 cs' sl' 1110 [(0, .ref b), (1, .ref (ad 1 0)), (2, .ref (ad 0 0)), (3, .ref (ad 1 11)), (4, .int i)] [] H') : V' p l e room_1 s m #[Value.ref b] below meth c A s.heap Q D K4 ad nr 8 cs sl 649 [(0, .ref b), (1, .ref (ad 1 0)), (2, .ref (ad 0 0)), (3, .ref (ad 1 11)), (4, .int i)] [] H := by
  have hc0 : cs ≤ room_1.cells ∧ sl ≤ room_1.slots := ⟨okLE hcs.1, okLE hcs.2⟩
  obtain ⟨v, H1, H2, e1, e2, hI2⟩ := iv_ring hI ((xs (i + 1).toNatClampNeg)) ((xs (i + 2).toNatClampNeg)) ((xs (i + 3).toNatClampNeg))
  refine V_aload_n hC 1 dL_law_649 rfl ?_
  refine V_aload_n hC 0 dL_law_650 rfl ?_
  refine V_iload hC 4 dL_law_651 rfl ?_
  refine V_iconst (v := 1) hC dL_law_653 (by decide) ?_
  refine V_iadd hC dL_law_654 ?_
  refine V_sld hC hX hbl hbA h1 dL_law_655 ?_
  refine V_aload_n hC 0 dL_law_656 rfl ?_
  refine V_iload hC 4 dL_law_657 rfl ?_
  refine V_iconst (v := 2) hC dL_law_659 (by decide) ?_
  refine V_iadd hC dL_law_660 ?_
  refine V_sld hC hX hbl hbA h2 dL_law_661 ?_
  refine V_aload_n hC 0 dL_law_662 rfl ?_
  refine V_iload hC 4 dL_law_663 rfl ?_
  refine V_iconst (v := 3) hC dL_law_665 (by decide) ?_
  refine V_iadd hC dL_law_666 ?_
  refine V_sld hC hX hbl hbA h3 dL_law_667 ?_
  refine V_calli (g := 1) (k := 0) (As := [.int (xs (i + 1).toNatClampNeg), .int (xs (i + 2).toNatClampNeg), .int (xs (i + 3).toNatClampNeg)]) (st := []) hC (c_X8_ring l e1) rfl ml_W_77 ⟨Nat.le_of_ble_eq_true rfl, Nat.le_of_ble_eq_true rfl⟩ rfl rfl rfl (Nat.le_of_ble_eq_true rfl) dL_law_668 ?_ hc0
  refine V_aload_n hC 2 dL_law_671 rfl ?_
  refine V_aload_n hC 0 dL_law_672 rfl ?_
  refine V_iload hC 4 dL_law_673 rfl ?_
  refine V_iconst (v := 1) hC dL_law_675 (by decide) ?_
  refine V_iadd hC dL_law_676 ?_
  refine V_sld hC hX hbl hbA h1 dL_law_677 ?_
  refine V_aload_n hC 0 dL_law_678 rfl ?_
  refine V_iload hC 4 dL_law_679 rfl ?_
  refine V_iconst (v := 2) hC dL_law_681 (by decide) ?_
  refine V_iadd hC dL_law_682 ?_
  refine V_sld hC hX hbl hbA h2 dL_law_683 ?_
  refine V_aload_n hC 0 dL_law_684 rfl ?_
  refine V_iload hC 4 dL_law_685 rfl ?_
  refine V_iconst (v := 3) hC dL_law_687 (by decide) ?_
  refine V_iadd hC dL_law_688 ?_
  refine V_sld hC hX hbl hbA h3 dL_law_689 ?_
  refine V_calli (g := 0) (k := 0) (As := [.int (xs (i + 1).toNatClampNeg), .int (xs (i + 2).toNatClampNeg), .int (xs (i + 3).toNatClampNeg)]) (st := [.int v]) hC (c_X9_ring l e2) rfl ml_W_80 ⟨Nat.le_of_ble_eq_true rfl, Nat.le_of_ble_eq_true rfl⟩ rfl rfl rfl (Nat.le_of_ble_eq_true rfl) dL_law_690 ?_ hc0
  exact V_icmp_eq (tgt := 1110) hC dL_law_693 (by decide) (fun _ => kN cs sl H2 (Nat.le_add_right _ _) (Nat.le_add_right _ _) hI2) (fun q => absurd rfl q)
set_option maxRecDepth 100000 in
set_option maxHeartbeats 4000000 in
theorem lc_begin {p : Program} {l : Launch} {e : Env} {s : State} {m : MethodId} {below : List Frame} {meth : Method} {c : Code} {A : Nat → Prop} {Q : State → Prop} {D : va_G} {K4 : kQ} {ad : Nat → Nat → Nat} {nr cs sl : Nat} {H : Hp} {b L : Nat} {xs : Nat → Int32} {i : Int32} (hC : Cx p s m #[Value.ref b] c A s.heap D K4 8 RL cL_law) (hX : va_X b L xs s s.heap) (hbl : b < s.heap.size) (hbA : ¬ A b) (h1 : vp_in (i + 1) L) (h2 : vp_in (i + 2) L) (h3 : vp_in (i + 3) L) (h4 : vp_in (i + 4) L) (h5 : vp_in (i + 5) L) (hcs : cs + 1 ≤ room_1.cells ∧ sl + 6 ≤ room_1.slots) (hI : IV nr H) (kN : ∀ cs' sl' H', cs' ≤ cs + 1 → sl' ≤ sl + 6 → IV nr H' → V' p l e room_1 s m #[Value.ref b] below meth c A s.heap Q D K4 ad nr 8 cs' sl' 1110 [(0, .ref b), (1, .ref (ad 1 0)), (2, .ref (ad 0 0)), (3, .ref (ad 1 11)), (4, .int i)] [] H') : V' p l e room_1 s m #[Value.ref b] below meth c A s.heap Q D K4 ad nr 8 cs sl 698 [(0, .ref b), (1, .ref (ad 1 0)), (2, .ref (ad 0 0)), (3, .ref (ad 1 11)), (4, .int i)] [] H := by
  have hc0 : cs ≤ room_1.cells ∧ sl ≤ room_1.slots := ⟨okLE hcs.1, okLE hcs.2⟩
  obtain ⟨v, H1, H2, e1, e2, hI2⟩ := iv_begin hI ((xs (i + 1).toNatClampNeg))
  refine V_aload_n hC 1 dL_law_698 rfl ?_
  refine V_aload_n hC 0 dL_law_699 rfl ?_
  refine V_iload hC 4 dL_law_700 rfl ?_
  refine V_iconst (v := 1) hC dL_law_702 (by decide) ?_
  refine V_iadd hC dL_law_703 ?_
  refine V_sld hC hX hbl hbA h1 dL_law_704 ?_
  refine V_calli (g := 1) (k := 0) (As := [.int (xs (i + 1).toNatClampNeg)]) (st := []) hC (c_X8_begin l e1) rfl ml_W_81 ⟨Nat.le_of_ble_eq_true rfl, Nat.le_of_ble_eq_true rfl⟩ rfl rfl rfl (Nat.le_of_ble_eq_true rfl) dL_law_705 ?_ hc0
  refine V_aload_n hC 2 dL_law_708 rfl ?_
  refine V_aload_n hC 0 dL_law_709 rfl ?_
  refine V_iload hC 4 dL_law_710 rfl ?_
  refine V_iconst (v := 1) hC dL_law_712 (by decide) ?_
  refine V_iadd hC dL_law_713 ?_
  refine V_sld hC hX hbl hbA h1 dL_law_714 ?_
  refine V_calli (g := 0) (k := 0) (As := [.int (xs (i + 1).toNatClampNeg)]) (st := [.int v]) hC (c_X9_begin l e2) rfl ml_W_85 ⟨Nat.le_of_ble_eq_true rfl, Nat.le_of_ble_eq_true rfl⟩ rfl rfl rfl (Nat.le_of_ble_eq_true rfl) dL_law_715 ?_ hc0
  exact V_icmp_eq (tgt := 1110) hC dL_law_718 (by decide) (fun _ => kN cs sl H2 (Nat.le_add_right _ _) (Nat.le_add_right _ _) hI2) (fun q => absurd rfl q)
set_option maxRecDepth 100000 in
set_option maxHeartbeats 4000000 in
theorem lc_go {p : Program} {l : Launch} {e : Env} {s : State} {m : MethodId} {below : List Frame} {meth : Method} {c : Code} {A : Nat → Prop} {Q : State → Prop} {D : va_G} {K4 : kQ} {ad : Nat → Nat → Nat} {nr cs sl : Nat} {H : Hp} {b L : Nat} {xs : Nat → Int32} {i : Int32} (hC : Cx p s m #[Value.ref b] c A s.heap D K4 8 RL cL_law) (hX : va_X b L xs s s.heap) (hbl : b < s.heap.size) (hbA : ¬ A b) (h1 : vp_in (i + 1) L) (h2 : vp_in (i + 2) L) (h3 : vp_in (i + 3) L) (h4 : vp_in (i + 4) L) (h5 : vp_in (i + 5) L) (hcs : cs + 1 ≤ room_1.cells ∧ sl + 6 ≤ room_1.slots) (hI : IV nr H) (kN : ∀ cs' sl' H', cs' ≤ cs + 1 → sl' ≤ sl + 6 → IV nr H' → V' p l e room_1 s m #[Value.ref b] below meth c A s.heap Q D K4 ad nr 8 cs' sl' 1110 [(0, .ref b), (1, .ref (ad 1 0)), (2, .ref (ad 0 0)), (3, .ref (ad 1 11)), (4, .int i)] [] H') : V' p l e room_1 s m #[Value.ref b] below meth c A s.heap Q D K4 ad nr 8 cs sl 723 [(0, .ref b), (1, .ref (ad 1 0)), (2, .ref (ad 0 0)), (3, .ref (ad 1 11)), (4, .int i)] [] H := by
  have hc0 : cs ≤ room_1.cells ∧ sl ≤ room_1.slots := ⟨okLE hcs.1, okLE hcs.2⟩
  obtain ⟨v, H1, H2, e1, e2, hI2⟩ := iv_go hI ((xs (i + 1).toNatClampNeg)) ((xs (i + 2).toNatClampNeg))
  refine V_aload_n hC 1 dL_law_723 rfl ?_
  refine V_aload_n hC 0 dL_law_724 rfl ?_
  refine V_iload hC 4 dL_law_725 rfl ?_
  refine V_iconst (v := 1) hC dL_law_727 (by decide) ?_
  refine V_iadd hC dL_law_728 ?_
  refine V_sld hC hX hbl hbA h1 dL_law_729 ?_
  refine V_aload_n hC 0 dL_law_730 rfl ?_
  refine V_iload hC 4 dL_law_731 rfl ?_
  refine V_iconst (v := 2) hC dL_law_733 (by decide) ?_
  refine V_iadd hC dL_law_734 ?_
  refine V_sld hC hX hbl hbA h2 dL_law_735 ?_
  refine V_calli (g := 1) (k := 0) (As := [.int (xs (i + 1).toNatClampNeg), .int (xs (i + 2).toNatClampNeg)]) (st := []) hC (c_X8_go l e1) rfl ml_W_86 ⟨Nat.le_of_ble_eq_true rfl, Nat.le_of_ble_eq_true rfl⟩ rfl rfl rfl (Nat.le_of_ble_eq_true rfl) dL_law_736 ?_ hc0
  refine V_aload_n hC 2 dL_law_739 rfl ?_
  refine V_aload_n hC 0 dL_law_740 rfl ?_
  refine V_iload hC 4 dL_law_741 rfl ?_
  refine V_iconst (v := 1) hC dL_law_743 (by decide) ?_
  refine V_iadd hC dL_law_744 ?_
  refine V_sld hC hX hbl hbA h1 dL_law_745 ?_
  refine V_aload_n hC 0 dL_law_746 rfl ?_
  refine V_iload hC 4 dL_law_747 rfl ?_
  refine V_iconst (v := 2) hC dL_law_749 (by decide) ?_
  refine V_iadd hC dL_law_750 ?_
  refine V_sld hC hX hbl hbA h2 dL_law_751 ?_
  refine V_calli (g := 0) (k := 0) (As := [.int (xs (i + 1).toNatClampNeg), .int (xs (i + 2).toNatClampNeg)]) (st := [.int v]) hC (c_X9_go l e2) rfl ml_W_90 ⟨Nat.le_of_ble_eq_true rfl, Nat.le_of_ble_eq_true rfl⟩ rfl rfl rfl (Nat.le_of_ble_eq_true rfl) dL_law_752 ?_ hc0
  exact V_icmp_eq (tgt := 1110) hC dL_law_755 (by decide) (fun _ => kN cs sl H2 (Nat.le_add_right _ _) (Nat.le_add_right _ _) hI2) (fun q => absurd rfl q)
set_option maxRecDepth 100000 in
set_option maxHeartbeats 4000000 in
theorem lc_run {p : Program} {l : Launch} {e : Env} {s : State} {m : MethodId} {below : List Frame} {meth : Method} {c : Code} {A : Nat → Prop} {Q : State → Prop} {D : va_G} {K4 : kQ} {ad : Nat → Nat → Nat} {nr cs sl : Nat} {H : Hp} {b L : Nat} {xs : Nat → Int32} {i : Int32} (hC : Cx p s m #[Value.ref b] c A s.heap D K4 8 RL cL_law) (hX : va_X b L xs s s.heap) (hbl : b < s.heap.size) (hbA : ¬ A b) (h1 : vp_in (i + 1) L) (h2 : vp_in (i + 2) L) (h3 : vp_in (i + 3) L) (h4 : vp_in (i + 4) L) (h5 : vp_in (i + 5) L) (hcs : cs + 1 ≤ room_1.cells ∧ sl + 6 ≤ room_1.slots) (hI : IV nr H) (kN : ∀ cs' sl' H', cs' ≤ cs + 1 → sl' ≤ sl + 6 → IV nr H' → V' p l e room_1 s m #[Value.ref b] below meth c A s.heap Q D K4 ad nr 8 cs' sl' 1110 [(0, .ref b), (1, .ref (ad 1 0)), (2, .ref (ad 0 0)), (3, .ref (ad 1 11)), (4, .int i)] [] H') : V' p l e room_1 s m #[Value.ref b] below meth c A s.heap Q D K4 ad nr 8 cs sl 760 [(0, .ref b), (1, .ref (ad 1 0)), (2, .ref (ad 0 0)), (3, .ref (ad 1 11)), (4, .int i)] [] H := by
  have hc0 : cs ≤ room_1.cells ∧ sl ≤ room_1.slots := ⟨okLE hcs.1, okLE hcs.2⟩
  obtain ⟨v, H1, H2, e1, e2, hI2⟩ := iv_run hI ((xs (i + 1).toNatClampNeg))
  refine V_aload_n hC 1 dL_law_760 rfl ?_
  refine V_aload_n hC 0 dL_law_761 rfl ?_
  refine V_iload hC 4 dL_law_762 rfl ?_
  refine V_iconst (v := 1) hC dL_law_764 (by decide) ?_
  refine V_iadd hC dL_law_765 ?_
  refine V_sld hC hX hbl hbA h1 dL_law_766 ?_
  refine V_calli (g := 1) (k := 0) (As := [.int (xs (i + 1).toNatClampNeg)]) (st := []) hC (c_X8_run l e1) rfl ml_W_91 ⟨Nat.le_of_ble_eq_true rfl, Nat.le_of_ble_eq_true rfl⟩ rfl rfl rfl (Nat.le_of_ble_eq_true rfl) dL_law_767 ?_ hc0
  refine V_aload_n hC 2 dL_law_770 rfl ?_
  refine V_aload_n hC 0 dL_law_771 rfl ?_
  refine V_iload hC 4 dL_law_772 rfl ?_
  refine V_iconst (v := 1) hC dL_law_774 (by decide) ?_
  refine V_iadd hC dL_law_775 ?_
  refine V_sld hC hX hbl hbA h1 dL_law_776 ?_
  refine V_calli (g := 0) (k := 0) (As := [.int (xs (i + 1).toNatClampNeg)]) (st := [.int v]) hC (c_X9_run l e2) rfl ml_W_94 ⟨Nat.le_of_ble_eq_true rfl, Nat.le_of_ble_eq_true rfl⟩ rfl rfl rfl (Nat.le_of_ble_eq_true rfl) dL_law_777 ?_ hc0
  exact V_icmp_eq (tgt := 1110) hC dL_law_780 (by decide) (fun _ => kN cs sl H2 (Nat.le_add_right _ _) (Nat.le_add_right _ _) hI2) (fun q => absurd rfl q)
set_option maxRecDepth 100000 in
set_option maxHeartbeats 4000000 in
theorem lc_way {p : Program} {l : Launch} {e : Env} {s : State} {m : MethodId} {below : List Frame} {meth : Method} {c : Code} {A : Nat → Prop} {Q : State → Prop} {D : va_G} {K4 : kQ} {ad : Nat → Nat → Nat} {nr cs sl : Nat} {H : Hp} {b L : Nat} {xs : Nat → Int32} {i : Int32} (hC : Cx p s m #[Value.ref b] c A s.heap D K4 8 RL cL_law) (hX : va_X b L xs s s.heap) (hbl : b < s.heap.size) (hbA : ¬ A b) (h1 : vp_in (i + 1) L) (h2 : vp_in (i + 2) L) (h3 : vp_in (i + 3) L) (h4 : vp_in (i + 4) L) (h5 : vp_in (i + 5) L) (hcs : cs + 1 ≤ room_1.cells ∧ sl + 6 ≤ room_1.slots) (hI : IV nr H) (kN : ∀ cs' sl' H', cs' ≤ cs + 1 → sl' ≤ sl + 6 → IV nr H' → V' p l e room_1 s m #[Value.ref b] below meth c A s.heap Q D K4 ad nr 8 cs' sl' 1110 [(0, .ref b), (1, .ref (ad 1 0)), (2, .ref (ad 0 0)), (3, .ref (ad 1 11)), (4, .int i)] [] H') : V' p l e room_1 s m #[Value.ref b] below meth c A s.heap Q D K4 ad nr 8 cs sl 785 [(0, .ref b), (1, .ref (ad 1 0)), (2, .ref (ad 0 0)), (3, .ref (ad 1 11)), (4, .int i)] [] H := by
  have hc0 : cs ≤ room_1.cells ∧ sl ≤ room_1.slots := ⟨okLE hcs.1, okLE hcs.2⟩
  obtain ⟨v, H1, H2, e1, e2, hI2⟩ := iv_way hI ((xs (i + 1).toNatClampNeg)) ((((Int32.toInt64 (xs (i + 2).toNatClampNeg)) <<< (((32 : Int32).toInt64) &&& 63)) ||| ((Int32.toInt64 (xs (i + 3).toNatClampNeg)) &&& 4294967295))) ((xs (i + 4).toNatClampNeg))
  refine V_aload_n hC 1 dL_law_785 rfl ?_
  refine V_aload_n hC 0 dL_law_786 rfl ?_
  refine V_iload hC 4 dL_law_787 rfl ?_
  refine V_iconst (v := 1) hC dL_law_789 (by decide) ?_
  refine V_iadd hC dL_law_790 ?_
  refine V_sld hC hX hbl hbA h1 dL_law_791 ?_
  refine V_aload_n hC 0 dL_law_792 rfl ?_
  refine V_iload hC 4 dL_law_793 rfl ?_
  refine V_iconst (v := 2) hC dL_law_795 (by decide) ?_
  refine V_iadd hC dL_law_796 ?_
  refine V_sld hC hX hbl hbA h2 dL_law_797 ?_
  refine V_i2l hC dL_law_798 ?_
  refine V_bipush (v := 32) hC dL_law_799 (by decide) ?_
  refine V_lshl hC dL_law_801 ?_
  refine V_aload_n hC 0 dL_law_802 rfl ?_
  refine V_iload hC 4 dL_law_803 rfl ?_
  refine V_iconst (v := 3) hC dL_law_805 (by decide) ?_
  refine V_iadd hC dL_law_806 ?_
  refine V_sld hC hX hbl hbA h3 dL_law_807 ?_
  refine V_i2l hC dL_law_808 ?_
  refine V_ldc2 hC dL_law_809 kl_W ?_
  refine V_land hC dL_law_812 ?_
  refine V_lor hC dL_law_813 ?_
  refine V_aload_n hC 0 dL_law_814 rfl ?_
  refine V_iload hC 4 dL_law_815 rfl ?_
  refine V_iconst (v := 4) hC dL_law_817 (by decide) ?_
  refine V_iadd hC dL_law_818 ?_
  refine V_sld hC hX hbl hbA h4 dL_law_819 ?_
  refine V_calli (g := 1) (k := 0) (As := [.int (xs (i + 1).toNatClampNeg), .long (((Int32.toInt64 (xs (i + 2).toNatClampNeg)) <<< (((32 : Int32).toInt64) &&& 63)) ||| ((Int32.toInt64 (xs (i + 3).toNatClampNeg)) &&& 4294967295)), .int (xs (i + 4).toNatClampNeg)]) (st := []) hC (c_X8_way l e1) rfl ml_W_97 ⟨Nat.le_of_ble_eq_true rfl, Nat.le_of_ble_eq_true rfl⟩ rfl rfl rfl (Nat.le_of_ble_eq_true rfl) dL_law_820 ?_ hc0
  refine V_aload_n hC 2 dL_law_823 rfl ?_
  refine V_aload_n hC 0 dL_law_824 rfl ?_
  refine V_iload hC 4 dL_law_825 rfl ?_
  refine V_iconst (v := 1) hC dL_law_827 (by decide) ?_
  refine V_iadd hC dL_law_828 ?_
  refine V_sld hC hX hbl hbA h1 dL_law_829 ?_
  refine V_aload_n hC 0 dL_law_830 rfl ?_
  refine V_iload hC 4 dL_law_831 rfl ?_
  refine V_iconst (v := 2) hC dL_law_833 (by decide) ?_
  refine V_iadd hC dL_law_834 ?_
  refine V_sld hC hX hbl hbA h2 dL_law_835 ?_
  refine V_i2l hC dL_law_836 ?_
  refine V_bipush (v := 32) hC dL_law_837 (by decide) ?_
  refine V_lshl hC dL_law_839 ?_
  refine V_aload_n hC 0 dL_law_840 rfl ?_
  refine V_iload hC 4 dL_law_841 rfl ?_
  refine V_iconst (v := 3) hC dL_law_843 (by decide) ?_
  refine V_iadd hC dL_law_844 ?_
  refine V_sld hC hX hbl hbA h3 dL_law_845 ?_
  refine V_i2l hC dL_law_846 ?_
  refine V_ldc2 hC dL_law_847 kl_W ?_
  refine V_land hC dL_law_850 ?_
  refine V_lor hC dL_law_851 ?_
  refine V_aload_n hC 0 dL_law_852 rfl ?_
  refine V_iload hC 4 dL_law_853 rfl ?_
  refine V_iconst (v := 4) hC dL_law_855 (by decide) ?_
  refine V_iadd hC dL_law_856 ?_
  refine V_sld hC hX hbl hbA h4 dL_law_857 ?_
  refine V_calli (g := 0) (k := 0) (As := [.int (xs (i + 1).toNatClampNeg), .long (((Int32.toInt64 (xs (i + 2).toNatClampNeg)) <<< (((32 : Int32).toInt64) &&& 63)) ||| ((Int32.toInt64 (xs (i + 3).toNatClampNeg)) &&& 4294967295)), .int (xs (i + 4).toNatClampNeg)]) (st := [.int v]) hC (c_X9_way l e2) rfl ml_W_101 ⟨Nat.le_of_ble_eq_true rfl, Nat.le_of_ble_eq_true rfl⟩ rfl rfl rfl (Nat.le_of_ble_eq_true rfl) dL_law_858 ?_ hc0
  exact V_icmp_eq (tgt := 1110) hC dL_law_861 (by decide) (fun _ => kN cs sl H2 (Nat.le_add_right _ _) (Nat.le_add_right _ _) hI2) (fun q => absurd rfl q)
set_option maxRecDepth 100000 in
set_option maxHeartbeats 4000000 in
theorem lc_along {p : Program} {l : Launch} {e : Env} {s : State} {m : MethodId} {below : List Frame} {meth : Method} {c : Code} {A : Nat → Prop} {Q : State → Prop} {D : va_G} {K4 : kQ} {ad : Nat → Nat → Nat} {nr cs sl : Nat} {H : Hp} {b L : Nat} {xs : Nat → Int32} {i : Int32} (hC : Cx p s m #[Value.ref b] c A s.heap D K4 8 RL cL_law) (hX : va_X b L xs s s.heap) (hbl : b < s.heap.size) (hbA : ¬ A b) (h1 : vp_in (i + 1) L) (h2 : vp_in (i + 2) L) (h3 : vp_in (i + 3) L) (h4 : vp_in (i + 4) L) (h5 : vp_in (i + 5) L) (hcs : cs + 1 ≤ room_1.cells ∧ sl + 6 ≤ room_1.slots) (hI : IV nr H) (kN : ∀ cs' sl' H', cs' ≤ cs + 1 → sl' ≤ sl + 6 → IV nr H' → V' p l e room_1 s m #[Value.ref b] below meth c A s.heap Q D K4 ad nr 8 cs' sl' 1110 [(0, .ref b), (1, .ref (ad 1 0)), (2, .ref (ad 0 0)), (3, .ref (ad 1 11)), (4, .int i)] [] H') : V' p l e room_1 s m #[Value.ref b] below meth c A s.heap Q D K4 ad nr 8 cs sl 866 [(0, .ref b), (1, .ref (ad 1 0)), (2, .ref (ad 0 0)), (3, .ref (ad 1 11)), (4, .int i)] [] H := by
  have hc0 : cs ≤ room_1.cells ∧ sl ≤ room_1.slots := ⟨okLE hcs.1, okLE hcs.2⟩
  obtain ⟨v, H1, H2, e1, e2, hI2⟩ := iv_along hI ((xs (i + 1).toNatClampNeg)) ((((Int32.toInt64 (xs (i + 2).toNatClampNeg)) <<< (((32 : Int32).toInt64) &&& 63)) ||| ((Int32.toInt64 (xs (i + 3).toNatClampNeg)) &&& 4294967295))) ((xs (i + 4).toNatClampNeg))
  refine V_aload_n hC 1 dL_law_866 rfl ?_
  refine V_aload_n hC 0 dL_law_867 rfl ?_
  refine V_iload hC 4 dL_law_868 rfl ?_
  refine V_iconst (v := 1) hC dL_law_870 (by decide) ?_
  refine V_iadd hC dL_law_871 ?_
  refine V_sld hC hX hbl hbA h1 dL_law_872 ?_
  refine V_aload_n hC 0 dL_law_873 rfl ?_
  refine V_iload hC 4 dL_law_874 rfl ?_
  refine V_iconst (v := 2) hC dL_law_876 (by decide) ?_
  refine V_iadd hC dL_law_877 ?_
  refine V_sld hC hX hbl hbA h2 dL_law_878 ?_
  refine V_i2l hC dL_law_879 ?_
  refine V_bipush (v := 32) hC dL_law_880 (by decide) ?_
  refine V_lshl hC dL_law_882 ?_
  refine V_aload_n hC 0 dL_law_883 rfl ?_
  refine V_iload hC 4 dL_law_884 rfl ?_
  refine V_iconst (v := 3) hC dL_law_886 (by decide) ?_
  refine V_iadd hC dL_law_887 ?_
  refine V_sld hC hX hbl hbA h3 dL_law_888 ?_
  refine V_i2l hC dL_law_889 ?_
  refine V_ldc2 hC dL_law_890 kl_W ?_
  refine V_land hC dL_law_893 ?_
  refine V_lor hC dL_law_894 ?_
  refine V_aload_n hC 0 dL_law_895 rfl ?_
  refine V_iload hC 4 dL_law_896 rfl ?_
  refine V_iconst (v := 4) hC dL_law_898 (by decide) ?_
  refine V_iadd hC dL_law_899 ?_
  refine V_sld hC hX hbl hbA h4 dL_law_900 ?_
  refine V_calli (g := 1) (k := 0) (As := [.int (xs (i + 1).toNatClampNeg), .long (((Int32.toInt64 (xs (i + 2).toNatClampNeg)) <<< (((32 : Int32).toInt64) &&& 63)) ||| ((Int32.toInt64 (xs (i + 3).toNatClampNeg)) &&& 4294967295)), .int (xs (i + 4).toNatClampNeg)]) (st := []) hC (c_X8_along l e1) rfl ml_W_102 ⟨Nat.le_of_ble_eq_true rfl, Nat.le_of_ble_eq_true rfl⟩ rfl rfl rfl (Nat.le_of_ble_eq_true rfl) dL_law_901 ?_ hc0
  refine V_aload_n hC 2 dL_law_904 rfl ?_
  refine V_aload_n hC 0 dL_law_905 rfl ?_
  refine V_iload hC 4 dL_law_906 rfl ?_
  refine V_iconst (v := 1) hC dL_law_908 (by decide) ?_
  refine V_iadd hC dL_law_909 ?_
  refine V_sld hC hX hbl hbA h1 dL_law_910 ?_
  refine V_aload_n hC 0 dL_law_911 rfl ?_
  refine V_iload hC 4 dL_law_912 rfl ?_
  refine V_iconst (v := 2) hC dL_law_914 (by decide) ?_
  refine V_iadd hC dL_law_915 ?_
  refine V_sld hC hX hbl hbA h2 dL_law_916 ?_
  refine V_i2l hC dL_law_917 ?_
  refine V_bipush (v := 32) hC dL_law_918 (by decide) ?_
  refine V_lshl hC dL_law_920 ?_
  refine V_aload_n hC 0 dL_law_921 rfl ?_
  refine V_iload hC 4 dL_law_922 rfl ?_
  refine V_iconst (v := 3) hC dL_law_924 (by decide) ?_
  refine V_iadd hC dL_law_925 ?_
  refine V_sld hC hX hbl hbA h3 dL_law_926 ?_
  refine V_i2l hC dL_law_927 ?_
  refine V_ldc2 hC dL_law_928 kl_W ?_
  refine V_land hC dL_law_931 ?_
  refine V_lor hC dL_law_932 ?_
  refine V_aload_n hC 0 dL_law_933 rfl ?_
  refine V_iload hC 4 dL_law_934 rfl ?_
  refine V_iconst (v := 4) hC dL_law_936 (by decide) ?_
  refine V_iadd hC dL_law_937 ?_
  refine V_sld hC hX hbl hbA h4 dL_law_938 ?_
  refine V_calli (g := 0) (k := 0) (As := [.int (xs (i + 1).toNatClampNeg), .long (((Int32.toInt64 (xs (i + 2).toNatClampNeg)) <<< (((32 : Int32).toInt64) &&& 63)) ||| ((Int32.toInt64 (xs (i + 3).toNatClampNeg)) &&& 4294967295)), .int (xs (i + 4).toNatClampNeg)]) (st := [.int v]) hC (c_X9_along l e2) rfl ml_W_105 ⟨Nat.le_of_ble_eq_true rfl, Nat.le_of_ble_eq_true rfl⟩ rfl rfl rfl (Nat.le_of_ble_eq_true rfl) dL_law_939 ?_ hc0
  exact V_icmp_eq (tgt := 1110) hC dL_law_942 (by decide) (fun _ => kN cs sl H2 (Nat.le_add_right _ _) (Nat.le_add_right _ _) hI2) (fun q => absurd rfl q)
set_option maxRecDepth 100000 in
set_option maxHeartbeats 4000000 in
theorem lc_table {p : Program} {l : Launch} {e : Env} {s : State} {m : MethodId} {below : List Frame} {meth : Method} {c : Code} {A : Nat → Prop} {Q : State → Prop} {D : va_G} {K4 : kQ} {ad : Nat → Nat → Nat} {nr cs sl : Nat} {H : Hp} {b L : Nat} {xs : Nat → Int32} {i : Int32} (hC : Cx p s m #[Value.ref b] c A s.heap D K4 8 RL cL_law) (hX : va_X b L xs s s.heap) (hbl : b < s.heap.size) (hbA : ¬ A b) (h1 : vp_in (i + 1) L) (h2 : vp_in (i + 2) L) (h3 : vp_in (i + 3) L) (h4 : vp_in (i + 4) L) (h5 : vp_in (i + 5) L) (hcs : cs + 1 ≤ room_1.cells ∧ sl + 6 ≤ room_1.slots) (hI : IV nr H) (kN : ∀ cs' sl' H', cs' ≤ cs + 1 → sl' ≤ sl + 6 → IV nr H' → V' p l e room_1 s m #[Value.ref b] below meth c A s.heap Q D K4 ad nr 8 cs' sl' 1110 [(0, .ref b), (1, .ref (ad 1 0)), (2, .ref (ad 0 0)), (3, .ref (ad 1 11)), (4, .int i)] [] H') : V' p l e room_1 s m #[Value.ref b] below meth c A s.heap Q D K4 ad nr 8 cs sl 947 [(0, .ref b), (1, .ref (ad 1 0)), (2, .ref (ad 0 0)), (3, .ref (ad 1 11)), (4, .int i)] [] H := by
  have hc0 : cs ≤ room_1.cells ∧ sl ≤ room_1.slots := ⟨okLE hcs.1, okLE hcs.2⟩
  obtain ⟨v, H1, H2, e1, e2, hI2⟩ := iv_table hI ((xs (i + 1).toNatClampNeg)) ((xs (i + 2).toNatClampNeg)) ((xs (i + 3).toNatClampNeg))
  refine V_aload_n hC 1 dL_law_947 rfl ?_
  refine V_aload_n hC 0 dL_law_948 rfl ?_
  refine V_iload hC 4 dL_law_949 rfl ?_
  refine V_iconst (v := 1) hC dL_law_951 (by decide) ?_
  refine V_iadd hC dL_law_952 ?_
  refine V_sld hC hX hbl hbA h1 dL_law_953 ?_
  refine V_aload_n hC 0 dL_law_954 rfl ?_
  refine V_iload hC 4 dL_law_955 rfl ?_
  refine V_iconst (v := 2) hC dL_law_957 (by decide) ?_
  refine V_iadd hC dL_law_958 ?_
  refine V_sld hC hX hbl hbA h2 dL_law_959 ?_
  refine V_aload_n hC 0 dL_law_960 rfl ?_
  refine V_iload hC 4 dL_law_961 rfl ?_
  refine V_iconst (v := 3) hC dL_law_963 (by decide) ?_
  refine V_iadd hC dL_law_964 ?_
  refine V_sld hC hX hbl hbA h3 dL_law_965 ?_
  refine V_calll (g := 1) (k := 0) (As := [.int (xs (i + 1).toNatClampNeg), .int (xs (i + 2).toNatClampNeg), .int (xs (i + 3).toNatClampNeg)]) (st := []) hC (c_X8_table l e1) rfl ml_W_106 ⟨Nat.le_of_ble_eq_true rfl, Nat.le_of_ble_eq_true rfl⟩ rfl rfl rfl (Nat.le_of_ble_eq_true rfl) dL_law_966 ?_ hc0
  refine V_aload_n hC 2 dL_law_969 rfl ?_
  refine V_aload_n hC 0 dL_law_970 rfl ?_
  refine V_iload hC 4 dL_law_971 rfl ?_
  refine V_iconst (v := 1) hC dL_law_973 (by decide) ?_
  refine V_iadd hC dL_law_974 ?_
  refine V_sld hC hX hbl hbA h1 dL_law_975 ?_
  refine V_aload_n hC 0 dL_law_976 rfl ?_
  refine V_iload hC 4 dL_law_977 rfl ?_
  refine V_iconst (v := 2) hC dL_law_979 (by decide) ?_
  refine V_iadd hC dL_law_980 ?_
  refine V_sld hC hX hbl hbA h2 dL_law_981 ?_
  refine V_aload_n hC 0 dL_law_982 rfl ?_
  refine V_iload hC 4 dL_law_983 rfl ?_
  refine V_iconst (v := 3) hC dL_law_985 (by decide) ?_
  refine V_iadd hC dL_law_986 ?_
  refine V_sld hC hX hbl hbA h3 dL_law_987 ?_
  refine V_calll (g := 0) (k := 0) (As := [.int (xs (i + 1).toNatClampNeg), .int (xs (i + 2).toNatClampNeg), .int (xs (i + 3).toNatClampNeg)]) (st := [.long v]) hC (c_X9_table l e2) rfl ml_W_109 ⟨Nat.le_of_ble_eq_true rfl, Nat.le_of_ble_eq_true rfl⟩ rfl rfl rfl (Nat.le_of_ble_eq_true rfl) dL_law_988 ?_ hc0
  refine V_lcmp hC dL_law_991 ?_
  exact V_if_eq (tgt := 1110) hC dL_law_992 (by decide) (fun _ => kN cs sl H2 (Nat.le_add_right _ _) (Nat.le_add_right _ _) hI2) (fun q => absurd ((lg_cmp_eq _ _).mpr rfl) q)
set_option maxRecDepth 100000 in
set_option maxHeartbeats 4000000 in
theorem lc_told {p : Program} {l : Launch} {e : Env} {s : State} {m : MethodId} {below : List Frame} {meth : Method} {c : Code} {A : Nat → Prop} {Q : State → Prop} {D : va_G} {K4 : kQ} {ad : Nat → Nat → Nat} {nr cs sl : Nat} {H : Hp} {b L : Nat} {xs : Nat → Int32} {i : Int32} (hC : Cx p s m #[Value.ref b] c A s.heap D K4 8 RL cL_law) (hX : va_X b L xs s s.heap) (hbl : b < s.heap.size) (hbA : ¬ A b) (h1 : vp_in (i + 1) L) (h2 : vp_in (i + 2) L) (h3 : vp_in (i + 3) L) (h4 : vp_in (i + 4) L) (h5 : vp_in (i + 5) L) (hcs : cs + 1 ≤ room_1.cells ∧ sl + 6 ≤ room_1.slots) (hI : IV nr H) (kN : ∀ cs' sl' H', cs' ≤ cs + 1 → sl' ≤ sl + 6 → IV nr H' → V' p l e room_1 s m #[Value.ref b] below meth c A s.heap Q D K4 ad nr 8 cs' sl' 1110 [(0, .ref b), (1, .ref (ad 1 0)), (2, .ref (ad 0 0)), (3, .ref (ad 1 11)), (4, .int i)] [] H') : V' p l e room_1 s m #[Value.ref b] below meth c A s.heap Q D K4 ad nr 8 cs sl 997 [(0, .ref b), (1, .ref (ad 1 0)), (2, .ref (ad 0 0)), (3, .ref (ad 1 11)), (4, .int i)] [] H := by
  have hc0 : cs ≤ room_1.cells ∧ sl ≤ room_1.slots := ⟨okLE hcs.1, okLE hcs.2⟩
  obtain ⟨v, H1, H2, e1, e2, hI2⟩ := iv_told hI ((xs (i + 1).toNatClampNeg)) ((xs (i + 2).toNatClampNeg))
  refine V_aload_n hC 1 dL_law_997 rfl ?_
  refine V_aload_n hC 0 dL_law_998 rfl ?_
  refine V_iload hC 4 dL_law_999 rfl ?_
  refine V_iconst (v := 1) hC dL_law_1001 (by decide) ?_
  refine V_iadd hC dL_law_1002 ?_
  refine V_sld hC hX hbl hbA h1 dL_law_1003 ?_
  refine V_aload_n hC 0 dL_law_1004 rfl ?_
  refine V_iload hC 4 dL_law_1005 rfl ?_
  refine V_iconst (v := 2) hC dL_law_1007 (by decide) ?_
  refine V_iadd hC dL_law_1008 ?_
  refine V_sld hC hX hbl hbA h2 dL_law_1009 ?_
  refine V_calll (g := 1) (k := 0) (As := [.int (xs (i + 1).toNatClampNeg), .int (xs (i + 2).toNatClampNeg)]) (st := []) hC (c_X8_told l e1) rfl ml_W_110 ⟨Nat.le_of_ble_eq_true rfl, Nat.le_of_ble_eq_true rfl⟩ rfl rfl rfl (Nat.le_of_ble_eq_true rfl) dL_law_1010 ?_ hc0
  refine V_aload_n hC 2 dL_law_1013 rfl ?_
  refine V_aload_n hC 0 dL_law_1014 rfl ?_
  refine V_iload hC 4 dL_law_1015 rfl ?_
  refine V_iconst (v := 1) hC dL_law_1017 (by decide) ?_
  refine V_iadd hC dL_law_1018 ?_
  refine V_sld hC hX hbl hbA h1 dL_law_1019 ?_
  refine V_aload_n hC 0 dL_law_1020 rfl ?_
  refine V_iload hC 4 dL_law_1021 rfl ?_
  refine V_iconst (v := 2) hC dL_law_1023 (by decide) ?_
  refine V_iadd hC dL_law_1024 ?_
  refine V_sld hC hX hbl hbA h2 dL_law_1025 ?_
  refine V_calll (g := 0) (k := 0) (As := [.int (xs (i + 1).toNatClampNeg), .int (xs (i + 2).toNatClampNeg)]) (st := [.long v]) hC (c_X9_told l e2) rfl ml_W_113 ⟨Nat.le_of_ble_eq_true rfl, Nat.le_of_ble_eq_true rfl⟩ rfl rfl rfl (Nat.le_of_ble_eq_true rfl) dL_law_1026 ?_ hc0
  refine V_lcmp hC dL_law_1029 ?_
  exact V_if_eq (tgt := 1110) hC dL_law_1030 (by decide) (fun _ => kN cs sl H2 (Nat.le_add_right _ _) (Nat.le_add_right _ _) hI2) (fun q => absurd ((lg_cmp_eq _ _).mpr rfl) q)
set_option maxRecDepth 100000 in
set_option maxHeartbeats 4000000 in
theorem lc_blur {p : Program} {l : Launch} {e : Env} {s : State} {m : MethodId} {below : List Frame} {meth : Method} {c : Code} {A : Nat → Prop} {Q : State → Prop} {D : va_G} {K4 : kQ} {ad : Nat → Nat → Nat} {nr cs sl : Nat} {H : Hp} {b L : Nat} {xs : Nat → Int32} {i : Int32} (hC : Cx p s m #[Value.ref b] c A s.heap D K4 8 RL cL_law) (hX : va_X b L xs s s.heap) (hbl : b < s.heap.size) (hbA : ¬ A b) (h1 : vp_in (i + 1) L) (h2 : vp_in (i + 2) L) (h3 : vp_in (i + 3) L) (h4 : vp_in (i + 4) L) (h5 : vp_in (i + 5) L) (hcs : cs + 1 ≤ room_1.cells ∧ sl + 6 ≤ room_1.slots) (hI : IV nr H) (kN : ∀ cs' sl' H', cs' ≤ cs + 1 → sl' ≤ sl + 6 → IV nr H' → V' p l e room_1 s m #[Value.ref b] below meth c A s.heap Q D K4 ad nr 8 cs' sl' 1110 [(0, .ref b), (1, .ref (ad 1 0)), (2, .ref (ad 0 0)), (3, .ref (ad 1 11)), (4, .int i)] [] H') : V' p l e room_1 s m #[Value.ref b] below meth c A s.heap Q D K4 ad nr 8 cs sl 1035 [(0, .ref b), (1, .ref (ad 1 0)), (2, .ref (ad 0 0)), (3, .ref (ad 1 11)), (4, .int i)] [] H := by
  have hc0 : cs ≤ room_1.cells ∧ sl ≤ room_1.slots := ⟨okLE hcs.1, okLE hcs.2⟩
  obtain ⟨v, H1, H2, e1, e2, hI2⟩ := iv_blur hI ((xs (i + 1).toNatClampNeg)) ((xs (i + 2).toNatClampNeg)) ((xs (i + 3).toNatClampNeg))
  refine V_aload_n hC 1 dL_law_1035 rfl ?_
  refine V_aload_n hC 0 dL_law_1036 rfl ?_
  refine V_iload hC 4 dL_law_1037 rfl ?_
  refine V_iconst (v := 1) hC dL_law_1039 (by decide) ?_
  refine V_iadd hC dL_law_1040 ?_
  refine V_sld hC hX hbl hbA h1 dL_law_1041 ?_
  refine V_aload_n hC 0 dL_law_1042 rfl ?_
  refine V_iload hC 4 dL_law_1043 rfl ?_
  refine V_iconst (v := 2) hC dL_law_1045 (by decide) ?_
  refine V_iadd hC dL_law_1046 ?_
  refine V_sld hC hX hbl hbA h2 dL_law_1047 ?_
  refine V_aload_n hC 0 dL_law_1048 rfl ?_
  refine V_iload hC 4 dL_law_1049 rfl ?_
  refine V_iconst (v := 3) hC dL_law_1051 (by decide) ?_
  refine V_iadd hC dL_law_1052 ?_
  refine V_sld hC hX hbl hbA h3 dL_law_1053 ?_
  refine V_calli (g := 1) (k := 0) (As := [.int (xs (i + 1).toNatClampNeg), .int (xs (i + 2).toNatClampNeg), .int (xs (i + 3).toNatClampNeg)]) (st := []) hC (c_X8_blur l e1) rfl ml_W_114 ⟨Nat.le_of_ble_eq_true rfl, Nat.le_of_ble_eq_true rfl⟩ rfl rfl rfl (Nat.le_of_ble_eq_true rfl) dL_law_1054 ?_ hc0
  refine V_aload_n hC 2 dL_law_1057 rfl ?_
  refine V_aload_n hC 0 dL_law_1058 rfl ?_
  refine V_iload hC 4 dL_law_1059 rfl ?_
  refine V_iconst (v := 1) hC dL_law_1061 (by decide) ?_
  refine V_iadd hC dL_law_1062 ?_
  refine V_sld hC hX hbl hbA h1 dL_law_1063 ?_
  refine V_aload_n hC 0 dL_law_1064 rfl ?_
  refine V_iload hC 4 dL_law_1065 rfl ?_
  refine V_iconst (v := 2) hC dL_law_1067 (by decide) ?_
  refine V_iadd hC dL_law_1068 ?_
  refine V_sld hC hX hbl hbA h2 dL_law_1069 ?_
  refine V_aload_n hC 0 dL_law_1070 rfl ?_
  refine V_iload hC 4 dL_law_1071 rfl ?_
  refine V_iconst (v := 3) hC dL_law_1073 (by decide) ?_
  refine V_iadd hC dL_law_1074 ?_
  refine V_sld hC hX hbl hbA h3 dL_law_1075 ?_
  refine V_calli (g := 0) (k := 0) (As := [.int (xs (i + 1).toNatClampNeg), .int (xs (i + 2).toNatClampNeg), .int (xs (i + 3).toNatClampNeg)]) (st := [.int v]) hC (c_X9_blur l e2) rfl ml_W_117 ⟨Nat.le_of_ble_eq_true rfl, Nat.le_of_ble_eq_true rfl⟩ rfl rfl rfl (Nat.le_of_ble_eq_true rfl) dL_law_1076 ?_ hc0
  exact V_icmp_eq (tgt := 1110) hC dL_law_1079 (by decide) (fun _ => kN cs sl H2 (Nat.le_add_right _ _) (Nat.le_add_right _ _) hI2) (fun q => absurd rfl q)
set_option maxRecDepth 100000 in
set_option maxHeartbeats 4000000 in
theorem lc_mend {p : Program} {l : Launch} {e : Env} {s : State} {m : MethodId} {below : List Frame} {meth : Method} {c : Code} {A : Nat → Prop} {Q : State → Prop} {D : va_G} {K4 : kQ} {ad : Nat → Nat → Nat} {nr cs sl : Nat} {H : Hp} {b L : Nat} {xs : Nat → Int32} {i : Int32} (hC : Cx p s m #[Value.ref b] c A s.heap D K4 8 RL cL_law) (hX : va_X b L xs s s.heap) (hbl : b < s.heap.size) (hbA : ¬ A b) (h1 : vp_in (i + 1) L) (h2 : vp_in (i + 2) L) (h3 : vp_in (i + 3) L) (h4 : vp_in (i + 4) L) (h5 : vp_in (i + 5) L) (hcs : cs + 1 ≤ room_1.cells ∧ sl + 6 ≤ room_1.slots) (hI : IV nr H) (kN : ∀ cs' sl' H', cs' ≤ cs + 1 → sl' ≤ sl + 6 → IV nr H' → V' p l e room_1 s m #[Value.ref b] below meth c A s.heap Q D K4 ad nr 8 cs' sl' 1110 [(0, .ref b), (1, .ref (ad 1 0)), (2, .ref (ad 0 0)), (3, .ref (ad 1 11)), (4, .int i)] [] H') : V' p l e room_1 s m #[Value.ref b] below meth c A s.heap Q D K4 ad nr 8 cs sl 1084 [(0, .ref b), (1, .ref (ad 1 0)), (2, .ref (ad 0 0)), (3, .ref (ad 1 11)), (4, .int i)] [] H := by
  have hc0 : cs ≤ room_1.cells ∧ sl ≤ room_1.slots := ⟨okLE hcs.1, okLE hcs.2⟩
  obtain ⟨v, H1, H2, e1, e2, hI2⟩ := iv_mend hI ((xs (i + 1).toNatClampNeg))
  refine V_aload_n hC 1 dL_law_1084 rfl ?_
  refine V_aload_n hC 0 dL_law_1085 rfl ?_
  refine V_iload hC 4 dL_law_1086 rfl ?_
  refine V_iconst (v := 1) hC dL_law_1088 (by decide) ?_
  refine V_iadd hC dL_law_1089 ?_
  refine V_sld hC hX hbl hbA h1 dL_law_1090 ?_
  refine V_calll (g := 1) (k := 0) (As := [.int (xs (i + 1).toNatClampNeg)]) (st := []) hC (c_X8_mend l e1) rfl ml_W_118 ⟨Nat.le_of_ble_eq_true rfl, Nat.le_of_ble_eq_true rfl⟩ rfl rfl rfl (Nat.le_of_ble_eq_true rfl) dL_law_1091 ?_ hc0
  refine V_aload_n hC 2 dL_law_1094 rfl ?_
  refine V_aload_n hC 0 dL_law_1095 rfl ?_
  refine V_iload hC 4 dL_law_1096 rfl ?_
  refine V_iconst (v := 1) hC dL_law_1098 (by decide) ?_
  refine V_iadd hC dL_law_1099 ?_
  refine V_sld hC hX hbl hbA h1 dL_law_1100 ?_
  refine V_calll (g := 0) (k := 0) (As := [.int (xs (i + 1).toNatClampNeg)]) (st := [.long v]) hC (c_X9_mend l e2) rfl ml_W_122 ⟨Nat.le_of_ble_eq_true rfl, Nat.le_of_ble_eq_true rfl⟩ rfl rfl rfl (Nat.le_of_ble_eq_true rfl) dL_law_1101 ?_ hc0
  refine V_lcmp hC dL_law_1104 ?_
  exact V_if_eq (tgt := 1110) hC dL_law_1105 (by decide) (fun _ => kN cs sl H2 (Nat.le_add_right _ _) (Nat.le_add_right _ _) hI2) (fun q => absurd ((lg_cmp_eq _ _).mpr rfl) q)
set_option maxRecDepth 100000 in
set_option maxHeartbeats 4000000 in
theorem lc_edge {p : Program} {l : Launch} {e : Env} {s : State} {m : MethodId} {below : List Frame} {meth : Method} {c : Code} {A : Nat → Prop} {Q : State → Prop} {D : va_G} {K4 : kQ} {ad : Nat → Nat → Nat} {nr cs sl : Nat} {H : Hp} {b L : Nat} {xs : Nat → Int32} {i : Int32} (hC : Cx p s m #[Value.ref b] c A s.heap D K4 8 RL cL_law) (hX : va_X b L xs s s.heap) (hbl : b < s.heap.size) (hbA : ¬ A b) (h1 : vp_in (i + 1) L) (h2 : vp_in (i + 2) L) (h3 : vp_in (i + 3) L) (h4 : vp_in (i + 4) L) (h5 : vp_in (i + 5) L) (hcs : cs + 1 ≤ room_1.cells ∧ sl + 6 ≤ room_1.slots) (hI : IV nr H) (kN : ∀ cs' sl' H', cs' ≤ cs + 1 → sl' ≤ sl + 6 → IV nr H' → V' p l e room_1 s m #[Value.ref b] below meth c A s.heap Q D K4 ad nr 8 cs' sl' 1110 [(0, .ref b), (1, .ref (ad 1 0)), (2, .ref (ad 0 0)), (3, .ref (ad 1 11)), (4, .int i)] [] H') : V' p l e room_1 s m #[Value.ref b] below meth c A s.heap Q D K4 ad nr 8 cs sl 198 [(0, .ref b), (1, .ref (ad 1 0)), (2, .ref (ad 0 0)), (3, .ref (ad 1 11)), (4, .int i)] [] H := by
  have hc0 : cs ≤ room_1.cells ∧ sl ≤ room_1.slots := ⟨okLE hcs.1, okLE hcs.2⟩
  by_cases hz : xs (i + 5).toNatClampNeg = 0
  · obtain ⟨v, H1, H2, e1, e2, hI2⟩ := iv_edge hI ((xs (i + 1).toNatClampNeg)) ((xs (i + 2).toNatClampNeg)) ((xs (i + 3).toNatClampNeg)) ((xs (i + 4).toNatClampNeg)) false
    refine V_aload_n hC 1 dL_law_198 rfl ?_
    refine V_aload_n hC 0 dL_law_199 rfl ?_
    refine V_iload hC 4 dL_law_200 rfl ?_
    refine V_iconst (v := 1) hC dL_law_202 (by decide) ?_
    refine V_iadd hC dL_law_203 ?_
    refine V_sld hC hX hbl hbA h1 dL_law_204 ?_
    refine V_aload_n hC 0 dL_law_205 rfl ?_
    refine V_iload hC 4 dL_law_206 rfl ?_
    refine V_iconst (v := 2) hC dL_law_208 (by decide) ?_
    refine V_iadd hC dL_law_209 ?_
    refine V_sld hC hX hbl hbA h2 dL_law_210 ?_
    refine V_aload_n hC 0 dL_law_211 rfl ?_
    refine V_iload hC 4 dL_law_212 rfl ?_
    refine V_iconst (v := 3) hC dL_law_214 (by decide) ?_
    refine V_iadd hC dL_law_215 ?_
    refine V_sld hC hX hbl hbA h3 dL_law_216 ?_
    refine V_aload_n hC 0 dL_law_217 rfl ?_
    refine V_iload hC 4 dL_law_218 rfl ?_
    refine V_iconst (v := 4) hC dL_law_220 (by decide) ?_
    refine V_iadd hC dL_law_221 ?_
    refine V_sld hC hX hbl hbA h4 dL_law_222 ?_
    refine V_aload_n hC 0 dL_law_223 rfl ?_
    refine V_iload hC 4 dL_law_224 rfl ?_
    refine V_iconst (v := 5) hC dL_law_226 (by decide) ?_
    refine V_iadd hC dL_law_227 ?_
    refine V_sld hC hX hbl hbA h5 dL_law_228 ?_
    refine V_if_eq (tgt := 236) hC dL_law_229 (by decide) (fun _ => ?_) (fun q => absurd hz q)
    refine V_iconst (v := bI false) hC dL_law_236 (by decide) ?_
    refine V_calli (g := 1) (k := 0) (As := [.int (xs (i + 1).toNatClampNeg), .int (xs (i + 2).toNatClampNeg), .int (xs (i + 3).toNatClampNeg), .int (xs (i + 4).toNatClampNeg), .int (bI false)]) (st := []) hC (c_X8_edge l e1) rfl ml_W_38 ⟨Nat.le_of_ble_eq_true rfl, Nat.le_of_ble_eq_true rfl⟩ rfl rfl rfl (Nat.le_of_ble_eq_true rfl) dL_law_237 ?_ hc0
    refine V_aload_n hC 2 dL_law_240 rfl ?_
    refine V_aload_n hC 0 dL_law_241 rfl ?_
    refine V_iload hC 4 dL_law_242 rfl ?_
    refine V_iconst (v := 1) hC dL_law_244 (by decide) ?_
    refine V_iadd hC dL_law_245 ?_
    refine V_sld hC hX hbl hbA h1 dL_law_246 ?_
    refine V_aload_n hC 0 dL_law_247 rfl ?_
    refine V_iload hC 4 dL_law_248 rfl ?_
    refine V_iconst (v := 2) hC dL_law_250 (by decide) ?_
    refine V_iadd hC dL_law_251 ?_
    refine V_sld hC hX hbl hbA h2 dL_law_252 ?_
    refine V_aload_n hC 0 dL_law_253 rfl ?_
    refine V_iload hC 4 dL_law_254 rfl ?_
    refine V_iconst (v := 3) hC dL_law_256 (by decide) ?_
    refine V_iadd hC dL_law_257 ?_
    refine V_sld hC hX hbl hbA h3 dL_law_258 ?_
    refine V_aload_n hC 0 dL_law_259 rfl ?_
    refine V_iload hC 4 dL_law_260 rfl ?_
    refine V_iconst (v := 4) hC dL_law_262 (by decide) ?_
    refine V_iadd hC dL_law_263 ?_
    refine V_sld hC hX hbl hbA h4 dL_law_264 ?_
    refine V_aload_n hC 0 dL_law_265 rfl ?_
    refine V_iload hC 4 dL_law_266 rfl ?_
    refine V_iconst (v := 5) hC dL_law_268 (by decide) ?_
    refine V_iadd hC dL_law_269 ?_
    refine V_sld hC hX hbl hbA h5 dL_law_270 ?_
    refine V_if_eq (tgt := 278) hC dL_law_271 (by decide) (fun _ => ?_) (fun q => absurd hz q)
    refine V_iconst (v := bI false) hC dL_law_278 (by decide) ?_
    refine V_calli (g := 0) (k := 0) (As := [.int (xs (i + 1).toNatClampNeg), .int (xs (i + 2).toNatClampNeg), .int (xs (i + 3).toNatClampNeg), .int (xs (i + 4).toNatClampNeg), .int (bI false)]) (st := [.int v]) hC (c_X9_edge l e2) rfl ml_W_42 ⟨Nat.le_of_ble_eq_true rfl, Nat.le_of_ble_eq_true rfl⟩ rfl rfl rfl (Nat.le_of_ble_eq_true rfl) dL_law_279 ?_ hc0
    exact V_icmp_eq (tgt := 1110) hC dL_law_282 (by decide) (fun _ => kN cs sl H2 (Nat.le_add_right _ _) (Nat.le_add_right _ _) hI2) (fun q => absurd rfl q)
  · obtain ⟨v, H1, H2, e1, e2, hI2⟩ := iv_edge hI ((xs (i + 1).toNatClampNeg)) ((xs (i + 2).toNatClampNeg)) ((xs (i + 3).toNatClampNeg)) ((xs (i + 4).toNatClampNeg)) true
    refine V_aload_n hC 1 dL_law_198 rfl ?_
    refine V_aload_n hC 0 dL_law_199 rfl ?_
    refine V_iload hC 4 dL_law_200 rfl ?_
    refine V_iconst (v := 1) hC dL_law_202 (by decide) ?_
    refine V_iadd hC dL_law_203 ?_
    refine V_sld hC hX hbl hbA h1 dL_law_204 ?_
    refine V_aload_n hC 0 dL_law_205 rfl ?_
    refine V_iload hC 4 dL_law_206 rfl ?_
    refine V_iconst (v := 2) hC dL_law_208 (by decide) ?_
    refine V_iadd hC dL_law_209 ?_
    refine V_sld hC hX hbl hbA h2 dL_law_210 ?_
    refine V_aload_n hC 0 dL_law_211 rfl ?_
    refine V_iload hC 4 dL_law_212 rfl ?_
    refine V_iconst (v := 3) hC dL_law_214 (by decide) ?_
    refine V_iadd hC dL_law_215 ?_
    refine V_sld hC hX hbl hbA h3 dL_law_216 ?_
    refine V_aload_n hC 0 dL_law_217 rfl ?_
    refine V_iload hC 4 dL_law_218 rfl ?_
    refine V_iconst (v := 4) hC dL_law_220 (by decide) ?_
    refine V_iadd hC dL_law_221 ?_
    refine V_sld hC hX hbl hbA h4 dL_law_222 ?_
    refine V_aload_n hC 0 dL_law_223 rfl ?_
    refine V_iload hC 4 dL_law_224 rfl ?_
    refine V_iconst (v := 5) hC dL_law_226 (by decide) ?_
    refine V_iadd hC dL_law_227 ?_
    refine V_sld hC hX hbl hbA h5 dL_law_228 ?_
    refine V_if_eq (tgt := 236) hC dL_law_229 (by decide) (fun q => absurd q hz) (fun _ => ?_)
    refine V_iconst (v := bI true) hC dL_law_232 (by decide) ?_
    refine V_goto (tgt := 237) hC dL_law_233 (by decide) ?_
    refine V_calli (g := 1) (k := 0) (As := [.int (xs (i + 1).toNatClampNeg), .int (xs (i + 2).toNatClampNeg), .int (xs (i + 3).toNatClampNeg), .int (xs (i + 4).toNatClampNeg), .int (bI true)]) (st := []) hC (c_X8_edge l e1) rfl ml_W_38 ⟨Nat.le_of_ble_eq_true rfl, Nat.le_of_ble_eq_true rfl⟩ rfl rfl rfl (Nat.le_of_ble_eq_true rfl) dL_law_237 ?_ hc0
    refine V_aload_n hC 2 dL_law_240 rfl ?_
    refine V_aload_n hC 0 dL_law_241 rfl ?_
    refine V_iload hC 4 dL_law_242 rfl ?_
    refine V_iconst (v := 1) hC dL_law_244 (by decide) ?_
    refine V_iadd hC dL_law_245 ?_
    refine V_sld hC hX hbl hbA h1 dL_law_246 ?_
    refine V_aload_n hC 0 dL_law_247 rfl ?_
    refine V_iload hC 4 dL_law_248 rfl ?_
    refine V_iconst (v := 2) hC dL_law_250 (by decide) ?_
    refine V_iadd hC dL_law_251 ?_
    refine V_sld hC hX hbl hbA h2 dL_law_252 ?_
    refine V_aload_n hC 0 dL_law_253 rfl ?_
    refine V_iload hC 4 dL_law_254 rfl ?_
    refine V_iconst (v := 3) hC dL_law_256 (by decide) ?_
    refine V_iadd hC dL_law_257 ?_
    refine V_sld hC hX hbl hbA h3 dL_law_258 ?_
    refine V_aload_n hC 0 dL_law_259 rfl ?_
    refine V_iload hC 4 dL_law_260 rfl ?_
    refine V_iconst (v := 4) hC dL_law_262 (by decide) ?_
    refine V_iadd hC dL_law_263 ?_
    refine V_sld hC hX hbl hbA h4 dL_law_264 ?_
    refine V_aload_n hC 0 dL_law_265 rfl ?_
    refine V_iload hC 4 dL_law_266 rfl ?_
    refine V_iconst (v := 5) hC dL_law_268 (by decide) ?_
    refine V_iadd hC dL_law_269 ?_
    refine V_sld hC hX hbl hbA h5 dL_law_270 ?_
    refine V_if_eq (tgt := 278) hC dL_law_271 (by decide) (fun q => absurd q hz) (fun _ => ?_)
    refine V_iconst (v := bI true) hC dL_law_274 (by decide) ?_
    refine V_goto (tgt := 279) hC dL_law_275 (by decide) ?_
    refine V_calli (g := 0) (k := 0) (As := [.int (xs (i + 1).toNatClampNeg), .int (xs (i + 2).toNatClampNeg), .int (xs (i + 3).toNatClampNeg), .int (xs (i + 4).toNatClampNeg), .int (bI true)]) (st := [.int v]) hC (c_X9_edge l e2) rfl ml_W_42 ⟨Nat.le_of_ble_eq_true rfl, Nat.le_of_ble_eq_true rfl⟩ rfl rfl rfl (Nat.le_of_ble_eq_true rfl) dL_law_279 ?_ hc0
    exact V_icmp_eq (tgt := 1110) hC dL_law_282 (by decide) (fun _ => kN cs sl H2 (Nat.le_add_right _ _) (Nat.le_add_right _ _) hI2) (fun q => absurd rfl q)
set_option maxRecDepth 100000 in
set_option maxHeartbeats 4000000 in
theorem lc_look {p : Program} {l : Launch} {e : Env} {s : State} {m : MethodId} {below : List Frame} {meth : Method} {c : Code} {A : Nat → Prop} {Q : State → Prop} {D : va_G} {K4 : kQ} {ad : Nat → Nat → Nat} {nr cs sl : Nat} {H : Hp} {b L : Nat} {xs : Nat → Int32} {i : Int32} (hC : Cx p s m #[Value.ref b] c A s.heap D K4 8 RL cL_law) (hX : va_X b L xs s s.heap) (hbl : b < s.heap.size) (hbA : ¬ A b) (h1 : vp_in (i + 1) L) (h2 : vp_in (i + 2) L) (h3 : vp_in (i + 3) L) (h4 : vp_in (i + 4) L) (h5 : vp_in (i + 5) L) (hcs : cs + 1 ≤ room_1.cells ∧ sl + 6 ≤ room_1.slots) (hI : IV nr H) (hLP : LPr A s s.heap) (hl : l.stackTraces = false) (kN : ∀ cs' sl' H', cs' ≤ cs + 1 → sl' ≤ sl + 6 → IV nr H' → V' p l e room_1 s m #[Value.ref b] below meth c A s.heap Q D K4 ad nr 8 cs' sl' 1110 [(0, .ref b), (1, .ref (ad 1 0)), (2, .ref (ad 0 0)), (3, .ref (ad 1 11)), (4, .int i)] [] H') : V' p l e room_1 s m #[Value.ref b] below meth c A s.heap Q D K4 ad nr 8 cs sl 386 [(0, .ref b), (1, .ref (ad 1 0)), (2, .ref (ad 0 0)), (3, .ref (ad 1 11)), (4, .int i)] [] H := by
  have hc0 : cs ≤ room_1.cells ∧ sl ≤ room_1.slots := ⟨okLE hcs.1, okLE hcs.2⟩
  rcases iv_look hI ((xs (i + 1).toNatClampNeg)) ((xs (i + 2).toNatClampNeg)) with ⟨x, H2, e1, e2, p1, p2, hI2⟩ | ⟨kx, x, H2, hk, e1, e2, p1, hI2⟩
  · refine V_aload_n hC 1 dL_law_386 rfl ?_
    refine V_aload_n hC 0 dL_law_387 rfl ?_
    refine V_iload hC 4 dL_law_388 rfl ?_
    refine V_iconst (v := 1) hC dL_law_390 (by decide) ?_
    refine V_iadd hC dL_law_391 ?_
    refine V_sld hC hX hbl hbA h1 dL_law_392 ?_
    refine V_aload_n hC 0 dL_law_393 rfl ?_
    refine V_iload hC 4 dL_law_394 rfl ?_
    refine V_iconst (v := 2) hC dL_law_396 (by decide) ?_
    refine V_iadd hC dL_law_397 ?_
    refine V_sld hC hX hbl hbA h2 dL_law_398 ?_
    refine V_aload_n hC 3 dL_law_399 rfl ?_
    refine V_callW (n := 4) (As := [.ref (ad 1 0), .int (xs (i + 1).toNatClampNeg), .int (xs (i + 2).toNatClampNeg), .ref (ad 1 11)]) (st := []) (r := 0) hC hLP (fun sz => w_L_look_0 l e1 D K4 ad sz) ms_W_look (by decide +kernel) ⟨Nat.le_of_ble_eq_true rfl, Nat.le_of_ble_eq_true rfl⟩ rfl (Nat.le_of_ble_eq_true rfl) dL_law_400 hc0 ?_
    refine V_istore (lv' := [(5, .int 0), (0, .ref b), (1, .ref (ad 1 0)), (2, .ref (ad 0 0)), (3, .ref (ad 1 11)), (4, .int i)]) hC dL_law_403 (by decide) rfl ?_
    refine V_aload_n hC 3 dL_law_405 rfl ?_
    refine V_aload_n hC 1 dL_law_406 rfl ?_
    refine V_iload hC 5 dL_law_407 rfl ?_
    refine V_iconst (v := 1) hC dL_law_409 (by decide) ?_
    refine V_iadd hC dL_law_410 ?_
    refine V_sld hC hX hbl hbA h1 dL_law_411 ?_
    refine V_aload_n hC 1 dL_law_412 rfl ?_
    refine V_iload hC 5 dL_law_413 rfl ?_
    refine V_iconst (v := 2) hC dL_law_415 (by decide) ?_
    refine V_iadd hC dL_law_416 ?_
    refine V_sld hC hX hbl hbA h2 dL_law_417 ?_
    refine V_calll (g := 0) (k := 0) (As := [.int (xs (i + 1).toNatClampNeg), .int (xs (i + 2).toNatClampNeg)]) (st := []) hC (c_X9_look l e2) rfl ml_W_62 ⟨Nat.le_of_ble_eq_true rfl, Nat.le_of_ble_eq_true rfl⟩ rfl rfl rfl (Nat.le_of_ble_eq_true rfl) dL_law_418 ?_ hc0
    refine V_lstore (lv' := [(6, .long x), (5, .int 0), (0, .ref b), (1, .ref (ad 1 0)), (2, .ref (ad 0 0)), (3, .ref (ad 1 11)), (4, .int i)]) hC dL_law_421 (by decide) rfl ?_
    refine V_aload_n hC 4 dL_law_423 rfl ?_
    refine V_calli (g := 0) (k := 0) (As := []) (st := []) hC (c_X9_thrown l (show f_X9_thrown H2 = some (gI H2 0 0 34, H2) from rfl)) rfl ml_W_63 ⟨Nat.le_of_ble_eq_true rfl, Nat.le_of_ble_eq_true rfl⟩ rfl rfl rfl (Nat.le_of_ble_eq_true rfl) dL_law_424 ?_ hc0
    refine V_iload hC 1 dL_law_427 rfl ?_
    refine V_icmp_eq (tgt := 434) hC dL_law_429 (by decide) (fun _ => ?_) (fun q => absurd (show gI H2 0 0 34 = 0 from p1) q)
    refine V_iload hC 1 dL_law_434 rfl ?_
    refine V_if_ne (tgt := 450) hC dL_law_436 (by decide) (fun q => absurd rfl q) (fun _ => ?_)
    refine V_aload_n hC 5 dL_law_439 rfl ?_
    refine V_iconst (v := 0) hC dL_law_440 (by decide) ?_
    refine V_lald (g := 1) (k := 11) hC rfl rfl (show vp_in (nI 0) 1 from vp_in_nI (by decide) (by decide)) dL_law_441 ?_
    refine V_lload hC 0 dL_law_442 rfl ?_
    refine V_lcmp hC dL_law_444 ?_
    refine V_if_eq (tgt := 450) hC dL_law_445 (by decide) (fun _ => ?_) (fun q => absurd ((lg_cmp_eq _ _).mpr p2) q)
    refine V_goto (tgt := 1110) hC dL_law_450 (by decide) ?_
    refine V_lv (lv' := [(0, .ref b), (1, .ref (ad 1 0)), (2, .ref (ad 0 0)), (3, .ref (ad 1 11)), (4, .int i)]) [2, 3, 4, 5, 6] rfl ?_
    exact kN _ _ H2 (Nat.le_add_right _ _) (Nat.le_add_right _ _) hI2
  · rcases hk with rfl | rfl
    · refine V_aload_n hC 1 dL_law_386 rfl ?_
      refine V_aload_n hC 0 dL_law_387 rfl ?_
      refine V_iload hC 4 dL_law_388 rfl ?_
      refine V_iconst (v := 1) hC dL_law_390 (by decide) ?_
      refine V_iadd hC dL_law_391 ?_
      refine V_sld hC hX hbl hbA h1 dL_law_392 ?_
      refine V_aload_n hC 0 dL_law_393 rfl ?_
      refine V_iload hC 4 dL_law_394 rfl ?_
      refine V_iconst (v := 2) hC dL_law_396 (by decide) ?_
      refine V_iadd hC dL_law_397 ?_
      refine V_sld hC hX hbl hbA h2 dL_law_398 ?_
      refine V_aload_n hC 3 dL_law_399 rfl ?_
      refine V_callW (n := 4) (As := [.ref (ad 1 0), .int (xs (i + 1).toNatClampNeg), .int (xs (i + 2).toNatClampNeg), .ref (ad 1 11)]) (st := []) (r := 1) hC hLP (fun sz => w_L_look_1 l hl e1 D K4 ad sz) ms_W_look (by decide +kernel) ⟨Nat.le_of_ble_eq_true rfl, Nat.le_of_ble_eq_true rfl⟩ rfl (Nat.le_of_ble_eq_true rfl) dL_law_400 hcs ?_
      refine V_istore (lv' := [(5, .int 1), (0, .ref b), (1, .ref (ad 1 0)), (2, .ref (ad 0 0)), (3, .ref (ad 1 11)), (4, .int i)]) hC dL_law_403 (by decide) rfl ?_
      refine V_aload_n hC 3 dL_law_405 rfl ?_
      refine V_aload_n hC 1 dL_law_406 rfl ?_
      refine V_iload hC 5 dL_law_407 rfl ?_
      refine V_iconst (v := 1) hC dL_law_409 (by decide) ?_
      refine V_iadd hC dL_law_410 ?_
      refine V_sld hC hX hbl hbA h1 dL_law_411 ?_
      refine V_aload_n hC 1 dL_law_412 rfl ?_
      refine V_iload hC 5 dL_law_413 rfl ?_
      refine V_iconst (v := 2) hC dL_law_415 (by decide) ?_
      refine V_iadd hC dL_law_416 ?_
      refine V_sld hC hX hbl hbA h2 dL_law_417 ?_
      refine V_calll (g := 0) (k := 0) (As := [.int (xs (i + 1).toNatClampNeg), .int (xs (i + 2).toNatClampNeg)]) (st := []) hC (c_X9_look l e2) rfl ml_W_62 ⟨Nat.le_of_ble_eq_true rfl, Nat.le_of_ble_eq_true rfl⟩ rfl rfl rfl (Nat.le_of_ble_eq_true rfl) dL_law_418 ?_ hcs
      refine V_lstore (lv' := [(6, .long x), (5, .int 1), (0, .ref b), (1, .ref (ad 1 0)), (2, .ref (ad 0 0)), (3, .ref (ad 1 11)), (4, .int i)]) hC dL_law_421 (by decide) rfl ?_
      refine V_aload_n hC 4 dL_law_423 rfl ?_
      refine V_calli (g := 0) (k := 0) (As := []) (st := []) hC (c_X9_thrown l (show f_X9_thrown H2 = some (gI H2 0 0 34, H2) from rfl)) rfl ml_W_63 ⟨Nat.le_of_ble_eq_true rfl, Nat.le_of_ble_eq_true rfl⟩ rfl rfl rfl (Nat.le_of_ble_eq_true rfl) dL_law_424 ?_ hcs
      refine V_iload hC 1 dL_law_427 rfl ?_
      refine V_icmp_eq (tgt := 434) hC dL_law_429 (by decide) (fun _ => ?_) (fun q => absurd (show gI H2 0 0 34 = 1 from p1) q)
      refine V_iload hC 1 dL_law_434 rfl ?_
      refine V_if_ne (tgt := 450) hC dL_law_436 (by decide) (fun _ => ?_) (fun q => absurd q (by decide))
      refine V_goto (tgt := 1110) hC dL_law_450 (by decide) ?_
      refine V_lv (lv' := [(0, .ref b), (1, .ref (ad 1 0)), (2, .ref (ad 0 0)), (3, .ref (ad 1 11)), (4, .int i)]) [2, 3, 4, 5, 6] rfl ?_
      exact kN _ _ H2 (Nat.le_refl _) (Nat.le_refl _) hI2
    · refine V_aload_n hC 1 dL_law_386 rfl ?_
      refine V_aload_n hC 0 dL_law_387 rfl ?_
      refine V_iload hC 4 dL_law_388 rfl ?_
      refine V_iconst (v := 1) hC dL_law_390 (by decide) ?_
      refine V_iadd hC dL_law_391 ?_
      refine V_sld hC hX hbl hbA h1 dL_law_392 ?_
      refine V_aload_n hC 0 dL_law_393 rfl ?_
      refine V_iload hC 4 dL_law_394 rfl ?_
      refine V_iconst (v := 2) hC dL_law_396 (by decide) ?_
      refine V_iadd hC dL_law_397 ?_
      refine V_sld hC hX hbl hbA h2 dL_law_398 ?_
      refine V_aload_n hC 3 dL_law_399 rfl ?_
      refine V_callW (n := 4) (As := [.ref (ad 1 0), .int (xs (i + 1).toNatClampNeg), .int (xs (i + 2).toNatClampNeg), .ref (ad 1 11)]) (st := []) (r := 2) hC hLP (fun sz => w_L_look_2 l hl e1 D K4 ad sz) ms_W_look (by decide +kernel) ⟨Nat.le_of_ble_eq_true rfl, Nat.le_of_ble_eq_true rfl⟩ rfl (Nat.le_of_ble_eq_true rfl) dL_law_400 hcs ?_
      refine V_istore (lv' := [(5, .int 2), (0, .ref b), (1, .ref (ad 1 0)), (2, .ref (ad 0 0)), (3, .ref (ad 1 11)), (4, .int i)]) hC dL_law_403 (by decide) rfl ?_
      refine V_aload_n hC 3 dL_law_405 rfl ?_
      refine V_aload_n hC 1 dL_law_406 rfl ?_
      refine V_iload hC 5 dL_law_407 rfl ?_
      refine V_iconst (v := 1) hC dL_law_409 (by decide) ?_
      refine V_iadd hC dL_law_410 ?_
      refine V_sld hC hX hbl hbA h1 dL_law_411 ?_
      refine V_aload_n hC 1 dL_law_412 rfl ?_
      refine V_iload hC 5 dL_law_413 rfl ?_
      refine V_iconst (v := 2) hC dL_law_415 (by decide) ?_
      refine V_iadd hC dL_law_416 ?_
      refine V_sld hC hX hbl hbA h2 dL_law_417 ?_
      refine V_calll (g := 0) (k := 0) (As := [.int (xs (i + 1).toNatClampNeg), .int (xs (i + 2).toNatClampNeg)]) (st := []) hC (c_X9_look l e2) rfl ml_W_62 ⟨Nat.le_of_ble_eq_true rfl, Nat.le_of_ble_eq_true rfl⟩ rfl rfl rfl (Nat.le_of_ble_eq_true rfl) dL_law_418 ?_ hcs
      refine V_lstore (lv' := [(6, .long x), (5, .int 2), (0, .ref b), (1, .ref (ad 1 0)), (2, .ref (ad 0 0)), (3, .ref (ad 1 11)), (4, .int i)]) hC dL_law_421 (by decide) rfl ?_
      refine V_aload_n hC 4 dL_law_423 rfl ?_
      refine V_calli (g := 0) (k := 0) (As := []) (st := []) hC (c_X9_thrown l (show f_X9_thrown H2 = some (gI H2 0 0 34, H2) from rfl)) rfl ml_W_63 ⟨Nat.le_of_ble_eq_true rfl, Nat.le_of_ble_eq_true rfl⟩ rfl rfl rfl (Nat.le_of_ble_eq_true rfl) dL_law_424 ?_ hcs
      refine V_iload hC 1 dL_law_427 rfl ?_
      refine V_icmp_eq (tgt := 434) hC dL_law_429 (by decide) (fun _ => ?_) (fun q => absurd (show gI H2 0 0 34 = 2 from p1) q)
      refine V_iload hC 1 dL_law_434 rfl ?_
      refine V_if_ne (tgt := 450) hC dL_law_436 (by decide) (fun _ => ?_) (fun q => absurd q (by decide))
      refine V_goto (tgt := 1110) hC dL_law_450 (by decide) ?_
      refine V_lv (lv' := [(0, .ref b), (1, .ref (ad 1 0)), (2, .ref (ad 0 0)), (3, .ref (ad 1 11)), (4, .int i)]) [2, 3, 4, 5, 6] rfl ?_
      exact kN _ _ H2 (Nat.le_refl _) (Nat.le_refl _) hI2
set_option maxRecDepth 100000 in
set_option maxHeartbeats 4000000 in
theorem lc_ofEdge {p : Program} {l : Launch} {e : Env} {s : State} {m : MethodId} {below : List Frame} {meth : Method} {c : Code} {A : Nat → Prop} {Q : State → Prop} {D : va_G} {K4 : kQ} {ad : Nat → Nat → Nat} {nr cs sl : Nat} {H : Hp} {b L : Nat} {xs : Nat → Int32} {i : Int32} (hC : Cx p s m #[Value.ref b] c A s.heap D K4 8 RL cL_law) (hX : va_X b L xs s s.heap) (hbl : b < s.heap.size) (hbA : ¬ A b) (h1 : vp_in (i + 1) L) (h2 : vp_in (i + 2) L) (h3 : vp_in (i + 3) L) (h4 : vp_in (i + 4) L) (h5 : vp_in (i + 5) L) (hcs : cs + 1 ≤ room_1.cells ∧ sl + 6 ≤ room_1.slots) (hI : IV nr H) (hLP : LPr A s s.heap) (hl : l.stackTraces = false) (kN : ∀ cs' sl' H', cs' ≤ cs + 1 → sl' ≤ sl + 6 → IV nr H' → V' p l e room_1 s m #[Value.ref b] below meth c A s.heap Q D K4 ad nr 8 cs' sl' 1110 [(0, .ref b), (1, .ref (ad 1 0)), (2, .ref (ad 0 0)), (3, .ref (ad 1 11)), (4, .int i)] [] H') : V' p l e room_1 s m #[Value.ref b] below meth c A s.heap Q D K4 ad nr 8 cs sl 453 [(0, .ref b), (1, .ref (ad 1 0)), (2, .ref (ad 0 0)), (3, .ref (ad 1 11)), (4, .int i)] [] H := by
  have hc0 : cs ≤ room_1.cells ∧ sl ≤ room_1.slots := ⟨okLE hcs.1, okLE hcs.2⟩
  rcases iv_ofEdge hI ((xs (i + 1).toNatClampNeg)) ((xs (i + 2).toNatClampNeg)) ((xs (i + 3).toNatClampNeg)) with ⟨x, H2, e1, e2, p1, p2, hI2⟩ | ⟨kx, x, H2, hk, e1, e2, p1, hI2⟩
  · refine V_aload_n hC 1 dL_law_453 rfl ?_
    refine V_aload_n hC 0 dL_law_454 rfl ?_
    refine V_iload hC 4 dL_law_455 rfl ?_
    refine V_iconst (v := 1) hC dL_law_457 (by decide) ?_
    refine V_iadd hC dL_law_458 ?_
    refine V_sld hC hX hbl hbA h1 dL_law_459 ?_
    refine V_aload_n hC 0 dL_law_460 rfl ?_
    refine V_iload hC 4 dL_law_461 rfl ?_
    refine V_iconst (v := 2) hC dL_law_463 (by decide) ?_
    refine V_iadd hC dL_law_464 ?_
    refine V_sld hC hX hbl hbA h2 dL_law_465 ?_
    refine V_aload_n hC 0 dL_law_466 rfl ?_
    refine V_iload hC 4 dL_law_467 rfl ?_
    refine V_iconst (v := 3) hC dL_law_469 (by decide) ?_
    refine V_iadd hC dL_law_470 ?_
    refine V_sld hC hX hbl hbA h3 dL_law_471 ?_
    refine V_aload_n hC 3 dL_law_472 rfl ?_
    refine V_callW (n := 5) (As := [.ref (ad 1 0), .int (xs (i + 1).toNatClampNeg), .int (xs (i + 2).toNatClampNeg), .int (xs (i + 3).toNatClampNeg), .ref (ad 1 11)]) (st := []) (r := 0) hC hLP (fun sz => w_L_ofEdge_0 l e1 D K4 ad sz) ms_W_ofEdge (by decide +kernel) ⟨Nat.le_of_ble_eq_true rfl, Nat.le_of_ble_eq_true rfl⟩ rfl (Nat.le_of_ble_eq_true rfl) dL_law_473 hc0 ?_
    refine V_istore (lv' := [(5, .int 0), (0, .ref b), (1, .ref (ad 1 0)), (2, .ref (ad 0 0)), (3, .ref (ad 1 11)), (4, .int i)]) hC dL_law_476 (by decide) rfl ?_
    refine V_aload_n hC 3 dL_law_478 rfl ?_
    refine V_aload_n hC 1 dL_law_479 rfl ?_
    refine V_iload hC 5 dL_law_480 rfl ?_
    refine V_iconst (v := 1) hC dL_law_482 (by decide) ?_
    refine V_iadd hC dL_law_483 ?_
    refine V_sld hC hX hbl hbA h1 dL_law_484 ?_
    refine V_aload_n hC 1 dL_law_485 rfl ?_
    refine V_iload hC 5 dL_law_486 rfl ?_
    refine V_iconst (v := 2) hC dL_law_488 (by decide) ?_
    refine V_iadd hC dL_law_489 ?_
    refine V_sld hC hX hbl hbA h2 dL_law_490 ?_
    refine V_aload_n hC 1 dL_law_491 rfl ?_
    refine V_iload hC 5 dL_law_492 rfl ?_
    refine V_iconst (v := 3) hC dL_law_494 (by decide) ?_
    refine V_iadd hC dL_law_495 ?_
    refine V_sld hC hX hbl hbA h3 dL_law_496 ?_
    refine V_calll (g := 0) (k := 0) (As := [.int (xs (i + 1).toNatClampNeg), .int (xs (i + 2).toNatClampNeg), .int (xs (i + 3).toNatClampNeg)]) (st := []) hC (c_X9_ofEdge l e2) rfl ml_W_69 ⟨Nat.le_of_ble_eq_true rfl, Nat.le_of_ble_eq_true rfl⟩ rfl rfl rfl (Nat.le_of_ble_eq_true rfl) dL_law_497 ?_ hc0
    refine V_lstore (lv' := [(6, .long x), (5, .int 0), (0, .ref b), (1, .ref (ad 1 0)), (2, .ref (ad 0 0)), (3, .ref (ad 1 11)), (4, .int i)]) hC dL_law_500 (by decide) rfl ?_
    refine V_aload_n hC 4 dL_law_502 rfl ?_
    refine V_calli (g := 0) (k := 0) (As := []) (st := []) hC (c_X9_thrown l (show f_X9_thrown H2 = some (gI H2 0 0 34, H2) from rfl)) rfl ml_W_63 ⟨Nat.le_of_ble_eq_true rfl, Nat.le_of_ble_eq_true rfl⟩ rfl rfl rfl (Nat.le_of_ble_eq_true rfl) dL_law_503 ?_ hc0
    refine V_iload hC 1 dL_law_506 rfl ?_
    refine V_icmp_eq (tgt := 513) hC dL_law_508 (by decide) (fun _ => ?_) (fun q => absurd (show gI H2 0 0 34 = 0 from p1) q)
    refine V_iload hC 1 dL_law_513 rfl ?_
    refine V_if_ne (tgt := 529) hC dL_law_515 (by decide) (fun q => absurd rfl q) (fun _ => ?_)
    refine V_aload_n hC 5 dL_law_518 rfl ?_
    refine V_iconst (v := 0) hC dL_law_519 (by decide) ?_
    refine V_lald (g := 1) (k := 11) hC rfl rfl (show vp_in (nI 0) 1 from vp_in_nI (by decide) (by decide)) dL_law_520 ?_
    refine V_lload hC 0 dL_law_521 rfl ?_
    refine V_lcmp hC dL_law_523 ?_
    refine V_if_eq (tgt := 529) hC dL_law_524 (by decide) (fun _ => ?_) (fun q => absurd ((lg_cmp_eq _ _).mpr p2) q)
    refine V_goto (tgt := 1110) hC dL_law_529 (by decide) ?_
    refine V_lv (lv' := [(0, .ref b), (1, .ref (ad 1 0)), (2, .ref (ad 0 0)), (3, .ref (ad 1 11)), (4, .int i)]) [2, 3, 4, 5, 6] rfl ?_
    exact kN _ _ H2 (Nat.le_add_right _ _) (Nat.le_add_right _ _) hI2
  · rcases hk with rfl | rfl
    · refine V_aload_n hC 1 dL_law_453 rfl ?_
      refine V_aload_n hC 0 dL_law_454 rfl ?_
      refine V_iload hC 4 dL_law_455 rfl ?_
      refine V_iconst (v := 1) hC dL_law_457 (by decide) ?_
      refine V_iadd hC dL_law_458 ?_
      refine V_sld hC hX hbl hbA h1 dL_law_459 ?_
      refine V_aload_n hC 0 dL_law_460 rfl ?_
      refine V_iload hC 4 dL_law_461 rfl ?_
      refine V_iconst (v := 2) hC dL_law_463 (by decide) ?_
      refine V_iadd hC dL_law_464 ?_
      refine V_sld hC hX hbl hbA h2 dL_law_465 ?_
      refine V_aload_n hC 0 dL_law_466 rfl ?_
      refine V_iload hC 4 dL_law_467 rfl ?_
      refine V_iconst (v := 3) hC dL_law_469 (by decide) ?_
      refine V_iadd hC dL_law_470 ?_
      refine V_sld hC hX hbl hbA h3 dL_law_471 ?_
      refine V_aload_n hC 3 dL_law_472 rfl ?_
      refine V_callW (n := 5) (As := [.ref (ad 1 0), .int (xs (i + 1).toNatClampNeg), .int (xs (i + 2).toNatClampNeg), .int (xs (i + 3).toNatClampNeg), .ref (ad 1 11)]) (st := []) (r := 1) hC hLP (fun sz => w_L_ofEdge_1 l hl e1 D K4 ad sz) ms_W_ofEdge (by decide +kernel) ⟨Nat.le_of_ble_eq_true rfl, Nat.le_of_ble_eq_true rfl⟩ rfl (Nat.le_of_ble_eq_true rfl) dL_law_473 hcs ?_
      refine V_istore (lv' := [(5, .int 1), (0, .ref b), (1, .ref (ad 1 0)), (2, .ref (ad 0 0)), (3, .ref (ad 1 11)), (4, .int i)]) hC dL_law_476 (by decide) rfl ?_
      refine V_aload_n hC 3 dL_law_478 rfl ?_
      refine V_aload_n hC 1 dL_law_479 rfl ?_
      refine V_iload hC 5 dL_law_480 rfl ?_
      refine V_iconst (v := 1) hC dL_law_482 (by decide) ?_
      refine V_iadd hC dL_law_483 ?_
      refine V_sld hC hX hbl hbA h1 dL_law_484 ?_
      refine V_aload_n hC 1 dL_law_485 rfl ?_
      refine V_iload hC 5 dL_law_486 rfl ?_
      refine V_iconst (v := 2) hC dL_law_488 (by decide) ?_
      refine V_iadd hC dL_law_489 ?_
      refine V_sld hC hX hbl hbA h2 dL_law_490 ?_
      refine V_aload_n hC 1 dL_law_491 rfl ?_
      refine V_iload hC 5 dL_law_492 rfl ?_
      refine V_iconst (v := 3) hC dL_law_494 (by decide) ?_
      refine V_iadd hC dL_law_495 ?_
      refine V_sld hC hX hbl hbA h3 dL_law_496 ?_
      refine V_calll (g := 0) (k := 0) (As := [.int (xs (i + 1).toNatClampNeg), .int (xs (i + 2).toNatClampNeg), .int (xs (i + 3).toNatClampNeg)]) (st := []) hC (c_X9_ofEdge l e2) rfl ml_W_69 ⟨Nat.le_of_ble_eq_true rfl, Nat.le_of_ble_eq_true rfl⟩ rfl rfl rfl (Nat.le_of_ble_eq_true rfl) dL_law_497 ?_ hcs
      refine V_lstore (lv' := [(6, .long x), (5, .int 1), (0, .ref b), (1, .ref (ad 1 0)), (2, .ref (ad 0 0)), (3, .ref (ad 1 11)), (4, .int i)]) hC dL_law_500 (by decide) rfl ?_
      refine V_aload_n hC 4 dL_law_502 rfl ?_
      refine V_calli (g := 0) (k := 0) (As := []) (st := []) hC (c_X9_thrown l (show f_X9_thrown H2 = some (gI H2 0 0 34, H2) from rfl)) rfl ml_W_63 ⟨Nat.le_of_ble_eq_true rfl, Nat.le_of_ble_eq_true rfl⟩ rfl rfl rfl (Nat.le_of_ble_eq_true rfl) dL_law_503 ?_ hcs
      refine V_iload hC 1 dL_law_506 rfl ?_
      refine V_icmp_eq (tgt := 513) hC dL_law_508 (by decide) (fun _ => ?_) (fun q => absurd (show gI H2 0 0 34 = 1 from p1) q)
      refine V_iload hC 1 dL_law_513 rfl ?_
      refine V_if_ne (tgt := 529) hC dL_law_515 (by decide) (fun _ => ?_) (fun q => absurd q (by decide))
      refine V_goto (tgt := 1110) hC dL_law_529 (by decide) ?_
      refine V_lv (lv' := [(0, .ref b), (1, .ref (ad 1 0)), (2, .ref (ad 0 0)), (3, .ref (ad 1 11)), (4, .int i)]) [2, 3, 4, 5, 6] rfl ?_
      exact kN _ _ H2 (Nat.le_refl _) (Nat.le_refl _) hI2
    · refine V_aload_n hC 1 dL_law_453 rfl ?_
      refine V_aload_n hC 0 dL_law_454 rfl ?_
      refine V_iload hC 4 dL_law_455 rfl ?_
      refine V_iconst (v := 1) hC dL_law_457 (by decide) ?_
      refine V_iadd hC dL_law_458 ?_
      refine V_sld hC hX hbl hbA h1 dL_law_459 ?_
      refine V_aload_n hC 0 dL_law_460 rfl ?_
      refine V_iload hC 4 dL_law_461 rfl ?_
      refine V_iconst (v := 2) hC dL_law_463 (by decide) ?_
      refine V_iadd hC dL_law_464 ?_
      refine V_sld hC hX hbl hbA h2 dL_law_465 ?_
      refine V_aload_n hC 0 dL_law_466 rfl ?_
      refine V_iload hC 4 dL_law_467 rfl ?_
      refine V_iconst (v := 3) hC dL_law_469 (by decide) ?_
      refine V_iadd hC dL_law_470 ?_
      refine V_sld hC hX hbl hbA h3 dL_law_471 ?_
      refine V_aload_n hC 3 dL_law_472 rfl ?_
      refine V_callW (n := 5) (As := [.ref (ad 1 0), .int (xs (i + 1).toNatClampNeg), .int (xs (i + 2).toNatClampNeg), .int (xs (i + 3).toNatClampNeg), .ref (ad 1 11)]) (st := []) (r := 2) hC hLP (fun sz => w_L_ofEdge_2 l hl e1 D K4 ad sz) ms_W_ofEdge (by decide +kernel) ⟨Nat.le_of_ble_eq_true rfl, Nat.le_of_ble_eq_true rfl⟩ rfl (Nat.le_of_ble_eq_true rfl) dL_law_473 hcs ?_
      refine V_istore (lv' := [(5, .int 2), (0, .ref b), (1, .ref (ad 1 0)), (2, .ref (ad 0 0)), (3, .ref (ad 1 11)), (4, .int i)]) hC dL_law_476 (by decide) rfl ?_
      refine V_aload_n hC 3 dL_law_478 rfl ?_
      refine V_aload_n hC 1 dL_law_479 rfl ?_
      refine V_iload hC 5 dL_law_480 rfl ?_
      refine V_iconst (v := 1) hC dL_law_482 (by decide) ?_
      refine V_iadd hC dL_law_483 ?_
      refine V_sld hC hX hbl hbA h1 dL_law_484 ?_
      refine V_aload_n hC 1 dL_law_485 rfl ?_
      refine V_iload hC 5 dL_law_486 rfl ?_
      refine V_iconst (v := 2) hC dL_law_488 (by decide) ?_
      refine V_iadd hC dL_law_489 ?_
      refine V_sld hC hX hbl hbA h2 dL_law_490 ?_
      refine V_aload_n hC 1 dL_law_491 rfl ?_
      refine V_iload hC 5 dL_law_492 rfl ?_
      refine V_iconst (v := 3) hC dL_law_494 (by decide) ?_
      refine V_iadd hC dL_law_495 ?_
      refine V_sld hC hX hbl hbA h3 dL_law_496 ?_
      refine V_calll (g := 0) (k := 0) (As := [.int (xs (i + 1).toNatClampNeg), .int (xs (i + 2).toNatClampNeg), .int (xs (i + 3).toNatClampNeg)]) (st := []) hC (c_X9_ofEdge l e2) rfl ml_W_69 ⟨Nat.le_of_ble_eq_true rfl, Nat.le_of_ble_eq_true rfl⟩ rfl rfl rfl (Nat.le_of_ble_eq_true rfl) dL_law_497 ?_ hcs
      refine V_lstore (lv' := [(6, .long x), (5, .int 2), (0, .ref b), (1, .ref (ad 1 0)), (2, .ref (ad 0 0)), (3, .ref (ad 1 11)), (4, .int i)]) hC dL_law_500 (by decide) rfl ?_
      refine V_aload_n hC 4 dL_law_502 rfl ?_
      refine V_calli (g := 0) (k := 0) (As := []) (st := []) hC (c_X9_thrown l (show f_X9_thrown H2 = some (gI H2 0 0 34, H2) from rfl)) rfl ml_W_63 ⟨Nat.le_of_ble_eq_true rfl, Nat.le_of_ble_eq_true rfl⟩ rfl rfl rfl (Nat.le_of_ble_eq_true rfl) dL_law_503 ?_ hcs
      refine V_iload hC 1 dL_law_506 rfl ?_
      refine V_icmp_eq (tgt := 513) hC dL_law_508 (by decide) (fun _ => ?_) (fun q => absurd (show gI H2 0 0 34 = 2 from p1) q)
      refine V_iload hC 1 dL_law_513 rfl ?_
      refine V_if_ne (tgt := 529) hC dL_law_515 (by decide) (fun _ => ?_) (fun q => absurd q (by decide))
      refine V_goto (tgt := 1110) hC dL_law_529 (by decide) ?_
      refine V_lv (lv' := [(0, .ref b), (1, .ref (ad 1 0)), (2, .ref (ad 0 0)), (3, .ref (ad 1 11)), (4, .int i)]) [2, 3, 4, 5, 6] rfl ?_
      exact kN _ _ H2 (Nat.le_refl _) (Nat.le_refl _) hI2
set_option maxRecDepth 100000 in
set_option maxHeartbeats 4000000 in
theorem lc_ofBlock {p : Program} {l : Launch} {e : Env} {s : State} {m : MethodId} {below : List Frame} {meth : Method} {c : Code} {A : Nat → Prop} {Q : State → Prop} {D : va_G} {K4 : kQ} {ad : Nat → Nat → Nat} {nr cs sl : Nat} {H : Hp} {b L : Nat} {xs : Nat → Int32} {i : Int32} (hC : Cx p s m #[Value.ref b] c A s.heap D K4 8 RL cL_law) (hX : va_X b L xs s s.heap) (hbl : b < s.heap.size) (hbA : ¬ A b) (h1 : vp_in (i + 1) L) (h2 : vp_in (i + 2) L) (h3 : vp_in (i + 3) L) (h4 : vp_in (i + 4) L) (h5 : vp_in (i + 5) L) (hcs : cs + 1 ≤ room_1.cells ∧ sl + 6 ≤ room_1.slots) (hI : IV nr H) (hLP : LPr A s s.heap) (hl : l.stackTraces = false) (kN : ∀ cs' sl' H', cs' ≤ cs + 1 → sl' ≤ sl + 6 → IV nr H' → V' p l e room_1 s m #[Value.ref b] below meth c A s.heap Q D K4 ad nr 8 cs' sl' 1110 [(0, .ref b), (1, .ref (ad 1 0)), (2, .ref (ad 0 0)), (3, .ref (ad 1 11)), (4, .int i)] [] H') : V' p l e room_1 s m #[Value.ref b] below meth c A s.heap Q D K4 ad nr 8 cs sl 532 [(0, .ref b), (1, .ref (ad 1 0)), (2, .ref (ad 0 0)), (3, .ref (ad 1 11)), (4, .int i)] [] H := by
  have hc0 : cs ≤ room_1.cells ∧ sl ≤ room_1.slots := ⟨okLE hcs.1, okLE hcs.2⟩
  rcases iv_ofBlock hI ((xs (i + 1).toNatClampNeg)) ((xs (i + 2).toNatClampNeg)) ((xs (i + 3).toNatClampNeg)) with ⟨x, H2, e1, e2, p1, p2, hI2⟩ | ⟨kx, x, H2, hk, e1, e2, p1, hI2⟩
  · refine V_aload_n hC 1 dL_law_532 rfl ?_
    refine V_aload_n hC 0 dL_law_533 rfl ?_
    refine V_iload hC 4 dL_law_534 rfl ?_
    refine V_iconst (v := 1) hC dL_law_536 (by decide) ?_
    refine V_iadd hC dL_law_537 ?_
    refine V_sld hC hX hbl hbA h1 dL_law_538 ?_
    refine V_aload_n hC 0 dL_law_539 rfl ?_
    refine V_iload hC 4 dL_law_540 rfl ?_
    refine V_iconst (v := 2) hC dL_law_542 (by decide) ?_
    refine V_iadd hC dL_law_543 ?_
    refine V_sld hC hX hbl hbA h2 dL_law_544 ?_
    refine V_aload_n hC 0 dL_law_545 rfl ?_
    refine V_iload hC 4 dL_law_546 rfl ?_
    refine V_iconst (v := 3) hC dL_law_548 (by decide) ?_
    refine V_iadd hC dL_law_549 ?_
    refine V_sld hC hX hbl hbA h3 dL_law_550 ?_
    refine V_aload_n hC 3 dL_law_551 rfl ?_
    refine V_callW (n := 5) (As := [.ref (ad 1 0), .int (xs (i + 1).toNatClampNeg), .int (xs (i + 2).toNatClampNeg), .int (xs (i + 3).toNatClampNeg), .ref (ad 1 11)]) (st := []) (r := 0) hC hLP (fun sz => w_L_ofBlock_0 l e1 D K4 ad sz) ms_W_ofBlock (by decide +kernel) ⟨Nat.le_of_ble_eq_true rfl, Nat.le_of_ble_eq_true rfl⟩ rfl (Nat.le_of_ble_eq_true rfl) dL_law_552 hc0 ?_
    refine V_istore (lv' := [(5, .int 0), (0, .ref b), (1, .ref (ad 1 0)), (2, .ref (ad 0 0)), (3, .ref (ad 1 11)), (4, .int i)]) hC dL_law_555 (by decide) rfl ?_
    refine V_aload_n hC 3 dL_law_557 rfl ?_
    refine V_aload_n hC 1 dL_law_558 rfl ?_
    refine V_iload hC 5 dL_law_559 rfl ?_
    refine V_iconst (v := 1) hC dL_law_561 (by decide) ?_
    refine V_iadd hC dL_law_562 ?_
    refine V_sld hC hX hbl hbA h1 dL_law_563 ?_
    refine V_aload_n hC 1 dL_law_564 rfl ?_
    refine V_iload hC 5 dL_law_565 rfl ?_
    refine V_iconst (v := 2) hC dL_law_567 (by decide) ?_
    refine V_iadd hC dL_law_568 ?_
    refine V_sld hC hX hbl hbA h2 dL_law_569 ?_
    refine V_aload_n hC 1 dL_law_570 rfl ?_
    refine V_iload hC 5 dL_law_571 rfl ?_
    refine V_iconst (v := 3) hC dL_law_573 (by decide) ?_
    refine V_iadd hC dL_law_574 ?_
    refine V_sld hC hX hbl hbA h3 dL_law_575 ?_
    refine V_calll (g := 0) (k := 0) (As := [.int (xs (i + 1).toNatClampNeg), .int (xs (i + 2).toNatClampNeg), .int (xs (i + 3).toNatClampNeg)]) (st := []) hC (c_X9_ofBlock l e2) rfl ml_W_72 ⟨Nat.le_of_ble_eq_true rfl, Nat.le_of_ble_eq_true rfl⟩ rfl rfl rfl (Nat.le_of_ble_eq_true rfl) dL_law_576 ?_ hc0
    refine V_lstore (lv' := [(6, .long x), (5, .int 0), (0, .ref b), (1, .ref (ad 1 0)), (2, .ref (ad 0 0)), (3, .ref (ad 1 11)), (4, .int i)]) hC dL_law_579 (by decide) rfl ?_
    refine V_aload_n hC 4 dL_law_581 rfl ?_
    refine V_calli (g := 0) (k := 0) (As := []) (st := []) hC (c_X9_thrown l (show f_X9_thrown H2 = some (gI H2 0 0 34, H2) from rfl)) rfl ml_W_63 ⟨Nat.le_of_ble_eq_true rfl, Nat.le_of_ble_eq_true rfl⟩ rfl rfl rfl (Nat.le_of_ble_eq_true rfl) dL_law_582 ?_ hc0
    refine V_iload hC 1 dL_law_585 rfl ?_
    refine V_icmp_eq (tgt := 592) hC dL_law_587 (by decide) (fun _ => ?_) (fun q => absurd (show gI H2 0 0 34 = 0 from p1) q)
    refine V_iload hC 1 dL_law_592 rfl ?_
    refine V_if_ne (tgt := 608) hC dL_law_594 (by decide) (fun q => absurd rfl q) (fun _ => ?_)
    refine V_aload_n hC 5 dL_law_597 rfl ?_
    refine V_iconst (v := 0) hC dL_law_598 (by decide) ?_
    refine V_lald (g := 1) (k := 11) hC rfl rfl (show vp_in (nI 0) 1 from vp_in_nI (by decide) (by decide)) dL_law_599 ?_
    refine V_lload hC 0 dL_law_600 rfl ?_
    refine V_lcmp hC dL_law_602 ?_
    refine V_if_eq (tgt := 608) hC dL_law_603 (by decide) (fun _ => ?_) (fun q => absurd ((lg_cmp_eq _ _).mpr p2) q)
    refine V_goto (tgt := 1110) hC dL_law_608 (by decide) ?_
    refine V_lv (lv' := [(0, .ref b), (1, .ref (ad 1 0)), (2, .ref (ad 0 0)), (3, .ref (ad 1 11)), (4, .int i)]) [2, 3, 4, 5, 6] rfl ?_
    exact kN _ _ H2 (Nat.le_add_right _ _) (Nat.le_add_right _ _) hI2
  · rcases hk with rfl | rfl
    · refine V_aload_n hC 1 dL_law_532 rfl ?_
      refine V_aload_n hC 0 dL_law_533 rfl ?_
      refine V_iload hC 4 dL_law_534 rfl ?_
      refine V_iconst (v := 1) hC dL_law_536 (by decide) ?_
      refine V_iadd hC dL_law_537 ?_
      refine V_sld hC hX hbl hbA h1 dL_law_538 ?_
      refine V_aload_n hC 0 dL_law_539 rfl ?_
      refine V_iload hC 4 dL_law_540 rfl ?_
      refine V_iconst (v := 2) hC dL_law_542 (by decide) ?_
      refine V_iadd hC dL_law_543 ?_
      refine V_sld hC hX hbl hbA h2 dL_law_544 ?_
      refine V_aload_n hC 0 dL_law_545 rfl ?_
      refine V_iload hC 4 dL_law_546 rfl ?_
      refine V_iconst (v := 3) hC dL_law_548 (by decide) ?_
      refine V_iadd hC dL_law_549 ?_
      refine V_sld hC hX hbl hbA h3 dL_law_550 ?_
      refine V_aload_n hC 3 dL_law_551 rfl ?_
      refine V_callW (n := 5) (As := [.ref (ad 1 0), .int (xs (i + 1).toNatClampNeg), .int (xs (i + 2).toNatClampNeg), .int (xs (i + 3).toNatClampNeg), .ref (ad 1 11)]) (st := []) (r := 1) hC hLP (fun sz => w_L_ofBlock_1 l hl e1 D K4 ad sz) ms_W_ofBlock (by decide +kernel) ⟨Nat.le_of_ble_eq_true rfl, Nat.le_of_ble_eq_true rfl⟩ rfl (Nat.le_of_ble_eq_true rfl) dL_law_552 hcs ?_
      refine V_istore (lv' := [(5, .int 1), (0, .ref b), (1, .ref (ad 1 0)), (2, .ref (ad 0 0)), (3, .ref (ad 1 11)), (4, .int i)]) hC dL_law_555 (by decide) rfl ?_
      refine V_aload_n hC 3 dL_law_557 rfl ?_
      refine V_aload_n hC 1 dL_law_558 rfl ?_
      refine V_iload hC 5 dL_law_559 rfl ?_
      refine V_iconst (v := 1) hC dL_law_561 (by decide) ?_
      refine V_iadd hC dL_law_562 ?_
      refine V_sld hC hX hbl hbA h1 dL_law_563 ?_
      refine V_aload_n hC 1 dL_law_564 rfl ?_
      refine V_iload hC 5 dL_law_565 rfl ?_
      refine V_iconst (v := 2) hC dL_law_567 (by decide) ?_
      refine V_iadd hC dL_law_568 ?_
      refine V_sld hC hX hbl hbA h2 dL_law_569 ?_
      refine V_aload_n hC 1 dL_law_570 rfl ?_
      refine V_iload hC 5 dL_law_571 rfl ?_
      refine V_iconst (v := 3) hC dL_law_573 (by decide) ?_
      refine V_iadd hC dL_law_574 ?_
      refine V_sld hC hX hbl hbA h3 dL_law_575 ?_
      refine V_calll (g := 0) (k := 0) (As := [.int (xs (i + 1).toNatClampNeg), .int (xs (i + 2).toNatClampNeg), .int (xs (i + 3).toNatClampNeg)]) (st := []) hC (c_X9_ofBlock l e2) rfl ml_W_72 ⟨Nat.le_of_ble_eq_true rfl, Nat.le_of_ble_eq_true rfl⟩ rfl rfl rfl (Nat.le_of_ble_eq_true rfl) dL_law_576 ?_ hcs
      refine V_lstore (lv' := [(6, .long x), (5, .int 1), (0, .ref b), (1, .ref (ad 1 0)), (2, .ref (ad 0 0)), (3, .ref (ad 1 11)), (4, .int i)]) hC dL_law_579 (by decide) rfl ?_
      refine V_aload_n hC 4 dL_law_581 rfl ?_
      refine V_calli (g := 0) (k := 0) (As := []) (st := []) hC (c_X9_thrown l (show f_X9_thrown H2 = some (gI H2 0 0 34, H2) from rfl)) rfl ml_W_63 ⟨Nat.le_of_ble_eq_true rfl, Nat.le_of_ble_eq_true rfl⟩ rfl rfl rfl (Nat.le_of_ble_eq_true rfl) dL_law_582 ?_ hcs
      refine V_iload hC 1 dL_law_585 rfl ?_
      refine V_icmp_eq (tgt := 592) hC dL_law_587 (by decide) (fun _ => ?_) (fun q => absurd (show gI H2 0 0 34 = 1 from p1) q)
      refine V_iload hC 1 dL_law_592 rfl ?_
      refine V_if_ne (tgt := 608) hC dL_law_594 (by decide) (fun _ => ?_) (fun q => absurd q (by decide))
      refine V_goto (tgt := 1110) hC dL_law_608 (by decide) ?_
      refine V_lv (lv' := [(0, .ref b), (1, .ref (ad 1 0)), (2, .ref (ad 0 0)), (3, .ref (ad 1 11)), (4, .int i)]) [2, 3, 4, 5, 6] rfl ?_
      exact kN _ _ H2 (Nat.le_refl _) (Nat.le_refl _) hI2
    · refine V_aload_n hC 1 dL_law_532 rfl ?_
      refine V_aload_n hC 0 dL_law_533 rfl ?_
      refine V_iload hC 4 dL_law_534 rfl ?_
      refine V_iconst (v := 1) hC dL_law_536 (by decide) ?_
      refine V_iadd hC dL_law_537 ?_
      refine V_sld hC hX hbl hbA h1 dL_law_538 ?_
      refine V_aload_n hC 0 dL_law_539 rfl ?_
      refine V_iload hC 4 dL_law_540 rfl ?_
      refine V_iconst (v := 2) hC dL_law_542 (by decide) ?_
      refine V_iadd hC dL_law_543 ?_
      refine V_sld hC hX hbl hbA h2 dL_law_544 ?_
      refine V_aload_n hC 0 dL_law_545 rfl ?_
      refine V_iload hC 4 dL_law_546 rfl ?_
      refine V_iconst (v := 3) hC dL_law_548 (by decide) ?_
      refine V_iadd hC dL_law_549 ?_
      refine V_sld hC hX hbl hbA h3 dL_law_550 ?_
      refine V_aload_n hC 3 dL_law_551 rfl ?_
      refine V_callW (n := 5) (As := [.ref (ad 1 0), .int (xs (i + 1).toNatClampNeg), .int (xs (i + 2).toNatClampNeg), .int (xs (i + 3).toNatClampNeg), .ref (ad 1 11)]) (st := []) (r := 2) hC hLP (fun sz => w_L_ofBlock_2 l hl e1 D K4 ad sz) ms_W_ofBlock (by decide +kernel) ⟨Nat.le_of_ble_eq_true rfl, Nat.le_of_ble_eq_true rfl⟩ rfl (Nat.le_of_ble_eq_true rfl) dL_law_552 hcs ?_
      refine V_istore (lv' := [(5, .int 2), (0, .ref b), (1, .ref (ad 1 0)), (2, .ref (ad 0 0)), (3, .ref (ad 1 11)), (4, .int i)]) hC dL_law_555 (by decide) rfl ?_
      refine V_aload_n hC 3 dL_law_557 rfl ?_
      refine V_aload_n hC 1 dL_law_558 rfl ?_
      refine V_iload hC 5 dL_law_559 rfl ?_
      refine V_iconst (v := 1) hC dL_law_561 (by decide) ?_
      refine V_iadd hC dL_law_562 ?_
      refine V_sld hC hX hbl hbA h1 dL_law_563 ?_
      refine V_aload_n hC 1 dL_law_564 rfl ?_
      refine V_iload hC 5 dL_law_565 rfl ?_
      refine V_iconst (v := 2) hC dL_law_567 (by decide) ?_
      refine V_iadd hC dL_law_568 ?_
      refine V_sld hC hX hbl hbA h2 dL_law_569 ?_
      refine V_aload_n hC 1 dL_law_570 rfl ?_
      refine V_iload hC 5 dL_law_571 rfl ?_
      refine V_iconst (v := 3) hC dL_law_573 (by decide) ?_
      refine V_iadd hC dL_law_574 ?_
      refine V_sld hC hX hbl hbA h3 dL_law_575 ?_
      refine V_calll (g := 0) (k := 0) (As := [.int (xs (i + 1).toNatClampNeg), .int (xs (i + 2).toNatClampNeg), .int (xs (i + 3).toNatClampNeg)]) (st := []) hC (c_X9_ofBlock l e2) rfl ml_W_72 ⟨Nat.le_of_ble_eq_true rfl, Nat.le_of_ble_eq_true rfl⟩ rfl rfl rfl (Nat.le_of_ble_eq_true rfl) dL_law_576 ?_ hcs
      refine V_lstore (lv' := [(6, .long x), (5, .int 2), (0, .ref b), (1, .ref (ad 1 0)), (2, .ref (ad 0 0)), (3, .ref (ad 1 11)), (4, .int i)]) hC dL_law_579 (by decide) rfl ?_
      refine V_aload_n hC 4 dL_law_581 rfl ?_
      refine V_calli (g := 0) (k := 0) (As := []) (st := []) hC (c_X9_thrown l (show f_X9_thrown H2 = some (gI H2 0 0 34, H2) from rfl)) rfl ml_W_63 ⟨Nat.le_of_ble_eq_true rfl, Nat.le_of_ble_eq_true rfl⟩ rfl rfl rfl (Nat.le_of_ble_eq_true rfl) dL_law_582 ?_ hcs
      refine V_iload hC 1 dL_law_585 rfl ?_
      refine V_icmp_eq (tgt := 592) hC dL_law_587 (by decide) (fun _ => ?_) (fun q => absurd (show gI H2 0 0 34 = 2 from p1) q)
      refine V_iload hC 1 dL_law_592 rfl ?_
      refine V_if_ne (tgt := 608) hC dL_law_594 (by decide) (fun _ => ?_) (fun q => absurd q (by decide))
      refine V_goto (tgt := 1110) hC dL_law_608 (by decide) ?_
      refine V_lv (lv' := [(0, .ref b), (1, .ref (ad 1 0)), (2, .ref (ad 0 0)), (3, .ref (ad 1 11)), (4, .int i)]) [2, 3, 4, 5, 6] rfl ?_
      exact kN _ _ H2 (Nat.le_refl _) (Nat.le_refl _) hI2
