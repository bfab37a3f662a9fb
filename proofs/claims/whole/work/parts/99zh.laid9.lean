theorem x9_push1 {H : Hp} {a u v : Nat} {R : Int64} (h : gI H 0 0 52 = nI a) (ha : a < 310) : f_X9_push (nI u) (nI v) R 1 H = some ((), pshH u v R (zI 1) (zI (-1)) a H) := x9_push (K := 1) h ha
theorem x9_push0 {H : Hp} {a u v : Nat} {R : Int64} (h : gI H 0 0 52 = nI a) (ha : a < 310) : f_X9_push (nI u) (nI v) R 0 H = some ((), pshH u v R (zI 0) (zI (-0)) a H) := x9_push (K := 0) h ha
theorem x9_m48 {H : Hp} {k : Hp → Option (Int64 × Hp)} {Q : Int64 → Hp → Prop} {r : Nat} {G : Gr} {bl : Nat → Nat} (hr : r < 8) (hG : GG G bl) (h : LyS r G bl 0 H) (hk : ∀ H', LyS r G bl (qE G) H' → ok (k H') Q) : ok (L_X9_mend_48 (nI r) k FU (nI (40 * r)) H) Q := by
  obtain ⟨g1, g2, g3, g4, g5⟩ := GG_n hG
  have e40 : ∀ E, (40 : Int32) * nI r + nI E = nI (40 * r + E) := fun E => by rw [l40, nImul, nIadd]
  refine ok_f1 (40 * r) (qE G) (fun i H' => LyS r G bl i H') ?_ ?_ rfl h (FUgt (by omega))
  · rintro i n H1 hi ⟨t, t1, ⟨t2, t7⟩, t3, t4, t5, t6⟩ K
    obtain ⟨s1, s2, s3⟩ := t6.2.2.2 i hi
    obtain ⟨w1, w2, _⟩ := hG.1.2.2.2.1 i hi
    have hb := hG.2.2 i
    have eb : bz G bl i = (bl i : Int) := if_pos hi
    have j1 : jE G i = i := if_pos (by omega)
    have j2 : jE G (i + 1) = i + 1 := if_pos (by omega)
    rw [j1] at t2 t7
    rw [L_X9_mend_48]
    simp only [gd_nI hr (show 8 < 2 ^ 31 by decide), gd_nI (show 40 * r + i < 320 by omega) (show 320 < 2 ^ 31 by decide), nI_clamp (show r < 2 ^ 31 by omega), nI_clamp (show 40 * r + i < 2 ^ 31 by omega), t6.2.1, e40, s1, s2]
    rw [if_neg (by rw [nI_le_iff (by omega) (by omega)]; omega), show nI (40 * r + i) + 1 = nI (40 * r + (i + 1)) from nIadd (40 * r + i) 1]
    by_cases e : qF G i = qT G i
    · rw [if_pos (by rw [e]), vl_e]
      refine K _ ⟨t, t1, ⟨?_, fun x => ?_⟩, t3, PR2_sl t4 (by rw [lF_e hi, lT_e hi]; exact e) (by omega), t5, t6⟩
      · rw [j2]; omega
      · rw [j2]
        have := t7 x
        omega
    · rw [if_neg (by rw [nI_inj (by omega) (by omega)]; exact e)]
      simp only [gd_nI (show qF G i < 21 by omega) (show 21 < 2 ^ 31 by decide), gd_nI (show qT G i < 21 by omega) (show 21 < 2 ^ 31 by decide), nI_clamp (show qF G i < 2 ^ 31 by omega), nI_clamp (show qT G i < 2 ^ 31 by omega), hl_e, gI_sJ, s1, s2, s3]
      have hbJ : Int32.toInt64 (nI (bl i)) = zJ (bl i : Int) := by rw [zI_n, zJ_I (by omega) (by omega)]
      rw [hbJ, t5 _ (show qT G i < 21 by omega), gJ_ne (by omega), t5 _ (show qF G i < 21 by omega), zJ_add, zJ_sub]
      have hM : MA t f00 (sJ (sJ H1 0 53 (qT G i) (zJ (yS t (qT G i) + (bl i : Int)))) 0 53 (qF G i) (zJ (yS t (qF G i) - (bl i : Int)))) := MA_o (MA_o t3 _ _) _ _
      have hSR : SR r G bl (sJ (sJ H1 0 53 (qT G i) (zJ (yS t (qT G i) + (bl i : Int)))) 0 53 (qF G i) (zJ (yS t (qF G i) - (bl i : Int)))) := SR_f t6 (fun _ _ _ => rfl)
      have hO : MO (fun x => yS t x + (-(bl i : Int)) * (i1 (qF G i) x - i1 (qT G i) x)) (sJ (sJ H1 0 53 (qT G i) (zJ (yS t (qT G i) + (bl i : Int)))) 0 53 (qF G i) (zJ (yS t (qF G i) - (bl i : Int)))) := by
        intro x hx
        by_cases e1 : x = qF G i
        · rw [e1, gJ_eq]
          have a1 : i1 (qF G i) (qF G i) = 1 := if_pos rfl
          have a2 : i1 (qT G i) (qF G i) = 0 := if_neg (Ne.symm e)
          congr 1
          show _ = yS t (qF G i) + -↑(bl i) * (i1 (qF G i) (qF G i) - i1 (qT G i) (qF G i))
          rw [a1, a2]; omega
        · rw [gJ_ne (by omega)]
          have a1 : i1 (qF G i) x = 0 := if_neg (Ne.symm e1)
          by_cases e2 : x = qT G i
          · rw [e2, gJ_eq]
            have a2 : i1 (qT G i) (qT G i) = 1 := if_pos rfl
            rw [e2] at a1
            congr 1
            show _ = yS t (qT G i) + -↑(bl i) * (i1 (qF G i) (qT G i) - i1 (qT G i) (qT G i))
            rw [a1, a2]; omega
          · rw [gJ_ne (by omega), t5 x hx]
            have a2 : i1 (qT G i) x = 0 := if_neg (Ne.symm e2)
            congr 1
            show _ = yS t x + -↑(bl i) * (i1 (qF G i) x - i1 (qT G i) x)
            rw [a1, a2]; omega
      generalize sJ (sJ H1 0 53 (qT G i) (zJ (yS t (qT G i) + (bl i : Int)))) 0 53 (qF G i) (zJ (yS t (qF G i) - (bl i : Int))) = H2 at hM hSR hO ⊢
      rw [zJA, x9_push1 hM.1 (by omega), bnd_s]
      have hM2 := MA_push (u := qF G i) (v := qT G i) (K := 1) (R := 1000000000000000) (y := 0) hM
      have hSR2 := SR_p (u := qF G i) (v := qT G i) (a := 2 * aM t) (R := zJ 1000000000000000) (K := zI 1) (K' := zI (-1)) hSR
      have hO2 := MO_p (u := qF G i) (v := qT G i) (a := 2 * aM t) (R := zJ 1000000000000000) (K := zI 1) (K' := zI (-1)) hO
      generalize pshH (qF G i) (qT G i) (zJ 1000000000000000) (zI 1) (zI (-1)) (2 * aM t) H2 = H3 at hM2 hSR2 hO2 ⊢
      obtain ⟨u1, u2, u3⟩ := hSR2.2.2.2 i hi
      have hm2 : aM (adP t (qF G i) (qT G i) 1 1000000000000000 0) = aM t + 1 := rfl
      rw [u1, u2, u3, hbJ, x9_push1 hM2.1 (by rw [hm2]; omega), bnd_s, vl_e]
      have hM3 := MA_push (u := qT G i) (v := qF G i) (K := 1) (R := (bl i : Int)) (y := -(bl i : Int)) hM2
      have hSR3 := SR_p (u := qT G i) (v := qF G i) (a := 2 * aM (adP t (qF G i) (qT G i) 1 1000000000000000 0)) (R := zJ (bl i : Int)) (K := zI 1) (K' := zI (-1)) hSR2
      have hO3 := MO_p (u := qT G i) (v := qF G i) (a := 2 * aM (adP t (qF G i) (qT G i) 1 1000000000000000 0)) (R := zJ (bl i : Int)) (K := zI 1) (K' := zI (-1)) hO2
      refine K _ ⟨adP (adP t (qF G i) (qT G i) 1 1000000000000000 0) (qT G i) (qF G i) 1 (bl i : Int) (-(bl i : Int)), ?_, ?_, hM3, ?_, ?_, hSR3⟩
      · exact adP_ok (adP_ok t1 (by omega) (by omega) (by omega) (by omega) (by omega) (by omega)) (by rw [hm2]; omega) (by omega) (by omega) (by omega) (by omega) (by omega)
      · rw [j2]
        refine ⟨show aM t + 1 + 1 ≤ _ by omega, fun x => ?_⟩
        rw [yS_ad, yS_ad]
        have h7 := t7 x
        unfold i1
        split <;> split <;> omega
      · have q := PR2_ad (u := qT G i) (v := qF G i) (k := 1) (cp := (bl i : Int)) (y := -(bl i : Int)) (t := adP t (qF G i) (qT G i) 1 1000000000000000 0) (j := i) (F0 := lF G) (T0 := lT G) (b := bz G bl)
        obtain ⟨b1, b2, b3, b4, b5⟩ := adP_eq (t := t) (u := qF G i) (v := qT G i) (k := 1) (cp := 1000000000000000) (y := 0)
        obtain ⟨d1, d2, d3, d4, d5⟩ := adP_lt (t := adP t (qF G i) (qT G i) 1 1000000000000000 0) (u := qT G i) (v := qF G i) (k := 1) (cp := (bl i : Int)) (y := -(bl i : Int)) (i := aM t) (by rw [hm2]; omega)
        obtain ⟨f1, f2, f3, f4, f5⟩ := adP_eq (t := adP t (qF G i) (qT G i) 1 1000000000000000 0) (u := qT G i) (v := qF G i) (k := 1) (cp := (bl i : Int)) (y := -(bl i : Int))
        rw [hm2] at f1 f2 f3 f4 f5
        have q1 : PR2 (lF G) (lT G) (bz G bl) i (aM t) (aF (adP (adP t (qF G i) (qT G i) 1 1000000000000000 0) (qT G i) (qF G i) 1 (bl i : Int) (-(bl i : Int)))) (aT (adP (adP t (qF G i) (qT G i) 1 1000000000000000 0) (qT G i) (qF G i) 1 (bl i : Int) (-(bl i : Int)))) (aK (adP (adP t (qF G i) (qT G i) 1 1000000000000000 0) (qT G i) (qF G i) 1 (bl i : Int) (-(bl i : Int)))) (aP (adP (adP t (qF G i) (qT G i) 1 1000000000000000 0) (qT G i) (qF G i) 1 (bl i : Int) (-(bl i : Int)))) (aY (adP (adP t (qF G i) (qT G i) 1 1000000000000000 0) (qT G i) (qF G i) 1 (bl i : Int) (-(bl i : Int)))) := by
          refine PR2_cg t4 (fun l hl => ?_)
          obtain ⟨x1, x2, x3, x4, x5⟩ := adP_lt (t := t) (u := qF G i) (v := qT G i) (k := 1) (cp := 1000000000000000) (y := 0) hl
          obtain ⟨z1, z2, z3, z4, z5⟩ := adP_lt (t := adP t (qF G i) (qT G i) 1 1000000000000000 0) (u := qT G i) (v := qF G i) (k := 1) (cp := (bl i : Int)) (y := -(bl i : Int)) (i := l) (by rw [hm2]; omega)
          rw [z1, z2, z3, z4, z5]
          exact ⟨x1, x2, x3, x4, x5⟩
        exact PR2_ed q1 (by rw [eb]; omega) (by rw [d1, b1, lF_e hi]) (by rw [d2, b2, lT_e hi]) (by rw [d3, b3]) (by rw [d4, b4]) (by rw [d5, b5]) (by rw [f1, lT_e hi]) (by rw [f2, lF_e hi]) f3 (by rw [f4, eb]) (by rw [f5, eb])
      · intro x hx
        rw [hO3 x hx, yS_ad, yS_ad]
        congr 1
        dsimp only
        omega
  · rintro n H1 h1
    obtain ⟨t, t1, t2, t3, t4, t5, t6⟩ := h1
    rw [L_X9_mend_48, gd_nI hr (by decide), nI_clamp (n := r) (by omega), t6.2.1, e40, if_pos (by rw [nI_le_iff (by omega) (by omega)]; omega)]
    exact hk H1 ⟨t, t1, t2, t3, t4, t5, t6⟩
/-- a link of END -/
theorem LyS_end {r : Nat} {G : Gr} {bl : Nat → Nat} {j : Nat} {H : Hp} (hG : GG G bl) (h : LyS r G bl j H) (hj : qE G ≤ j) (hj2 : j < lk G) : ∃ H', f_X9_push (nI (lF G j)) (nI (lT G j)) 1000000000000000 0 H = some ((), H') ∧ LyS r G bl (j + 1) H' := by
  obtain ⟨g1, g2, g3, g4, g5⟩ := GG_n hG
  obtain ⟨t, t1, ⟨t2, t7⟩, t3, t4, t5, t6⟩ := h
  have j1 : jE G j = qE G := by unfold jE; split <;> omega
  have j2 : jE G (j + 1) = qE G := by unfold jE; split <;> omega
  rw [j1] at t2 t7
  refine ⟨_, x9_push0 t3.1 (by omega), adP t (lF G j) (lT G j) 0 1000000000000000 0, ?_, ?_, ?_, ?_, ?_, SR_p t6⟩
  · refine adP_ok t1 (by omega) ?_ ?_ (by omega) (by omega) (by omega)
    · rcases lF_nod hG.1 j with q | q <;> omega
    · rcases lT_nod hG.1 hG.2.1 j with q | q <;> omega
  · rw [j2]
    refine ⟨show aM t + 1 ≤ _ by omega, fun x => ?_⟩
    rw [yS_ad]
    have h7 := t7 x
    omega
  · exact MA_push (K := 0) (R := 1000000000000000) t3
  · obtain ⟨b1, b2, b3, b4, b5⟩ := adP_eq (t := t) (u := lF G j) (v := lT G j) (k := 0) (cp := 1000000000000000) (y := 0)
    exact PR2_end (PR2_ad t4) (if_neg (by omega)) b1 b2 b3 b4 b5
  · intro x hx
    rw [MO_p t5 x hx, yS_ad]
    congr 1
    omega
theorem x9_m175 {H : Hp} {k : Hp → Option (Int64 × Hp)} {Q : Int64 → Hp → Prop} {r : Nat} {G : Gr} {bl : Nat → Nat} (hr : r < 8) (hG : GG G bl) (h : LyS r G bl (qE G) H) (hk : ∀ H', LyS r G bl (qE G + nL G) H' → ok (k H') Q) : ok (L_X9_mend_175 (nI r) k FU 0 H) Q := by
  obtain ⟨g1, g2, g3, g4, g5⟩ := GG_n hG
  have e20 : ∀ E, (20 : Int32) * nI r + nI E = nI (20 * r + E) := fun E => by rw [l20, nImul, nIadd]
  refine ok_g1 (qB G) (fun i H' => LyS r G bl (qE G + cntP (lvP G) i) H') ?_ ?_ rfl h (FUgt (by omega))
  · rintro i n H1 hi hL K
    have hSR := hL
    obtain ⟨t, _, _, _, _, _, t6⟩ := hSR
    have hk4 := hG.1.2.2.1 i hi
    rw [L_X9_mend_175, gd_nI hr (by decide), nI_clamp (n := r) (by omega), t6.1, if_neg (by rw [nI_le_iff (by omega) (by omega)]; omega), e20, gd_nI (show 20 * r + i < 160 by omega) (by decide), nI_clamp (n := 20 * r + i) (by omega), t6.2.2.1 i hi, show (3 : Int32) = nI 3 from rfl, show nI i + 1 = nI (i + 1) from nIadd i 1]
    by_cases q : qK G i = 3
    · have hlt : cntP (lvP G) i < nL G := cntP_lt hi (decide_eq_true q)
      have a1 : lF G (qE G + cntP (lvP G) i) = i := by
        unfold lF
        rw [if_neg (by omega), if_pos (by omega), Nat.add_sub_cancel_left, lfB_eq hi q]
      have a2 : lT G (qE G + cntP (lvP G) i) = 20 := by
        unfold lT
        rw [if_neg (by omega), if_pos (by omega)]
      obtain ⟨H2, e1, e2⟩ := LyS_end hG hL (by omega) (by unfold lk; omega)
      rw [a1, a2] at e1
      have e1 : f_X9_push (nI i) 20 1000000000000000 0 H1 = some ((), H2) := e1
      rw [if_pos (by rw [q]), e1, bnd_s, vl_e]
      refine K _ ?_
      show LyS r G bl (qE G + cntP (lvP G) (i + 1)) H2
      rw [cntP_s, if_pos (show lvP G i = true from decide_eq_true q)]
      exact e2
    · rw [if_neg (by rw [nI_inj (by omega) (by omega)]; exact q), vl_e]
      refine K _ ?_
      show LyS r G bl (qE G + cntP (lvP G) (i + 1)) H1
      rw [cntP_s, if_neg (show ¬ lvP G i = true from fun z => q (of_decide_eq_true z))]
      exact hL
  · rintro n H1 hL
    have hSR := hL
    obtain ⟨t, _, _, _, _, _, t6⟩ := hSR
    rw [L_X9_mend_175, gd_nI hr (by decide), nI_clamp (n := r) (by omega), t6.1, if_pos (by rw [nI_le_iff (by omega) (by omega)]; omega)]
    exact hk H1 hL
