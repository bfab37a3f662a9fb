/-- ring on both sides -/
abbrev LRN : List (Nat × Nat × Option Nat) := [(0, 0, some 34), (0, 0, some 43), (0, 35, none), (0, 39, none), (0, 40, none), (0, 41, none), (0, 42, none), (0, 44, none)]
theorem cntP_eq1 {t : Nat} (ht : t ≤ 20) : cntP (fun v => decide (v = t)) 21 = 1 := cntP_u1 (l := t) (by omega) (decide_eq_true rfl) (fun j _ h => of_decide_eq_true h)
theorem RS_0 {G : Gr} {Z : Nat → Bool} {e t : Nat} {H : Hp} (ht : t ≤ 20) (h : ∀ v, v < 21 → gI H 0 35 v = bI (decide (v = t))) : RS G Z e t (fun v => decide (v = t)) H := by
  refine ⟨fun _ => 0, fun _ => 0, false, fun v hv => h v (by omega), decide_eq_true rfl, fun v _ hM hvt => absurd (of_decide_eq_true hM) hvt, fun v _ _ => ?_, fun _ v _ hM => by rw [of_decide_eq_true hM], fun z => Bool.noConfusion z⟩
  rw [cntP_eq1 ht]; exact Nat.zero_lt_one
theorem x9_ringIn {r c e : Nat} {a : Rt} {Z : Nat → Bool} {H : Hp} (hr : r < 8) (hP : PR a) (hd : rD a = true) (hM : MR r a H) (hc : c < qE (rG a)) (he : e < qE (rG a)) (hcut : Cut (rGp a) Z e) : ok (bnd (f_X9_lay (nI r) H) (fun w15 H14 => gd ((40 * nI r) + nI c) 320 (vl ((gI H14 0 7 (Int32.toNatClampNeg ((40 * nI r) + nI c)))) (fun v16 => gd ((40 * nI r) + nI c) 320 (vl ((gI H14 0 6 (Int32.toNatClampNeg ((40 * nI r) + nI c)))) (fun v17 => L_X9_ring_104 (nI e) v16 v17 (fun H21 => L_X9_ring_134 (nI e) v16 v17 (fun H28 => L_X9_ring_167 (nI e) v16 v17 (fun H45 => L_X9_ring_294 (nI e) v16 (fun H57 => some (0, H57)) FU v17 H45) FU 1 H28) FU 0 H21) FU 0 H14)))))) (fun v H' => Ch TT LRN H H' ∧ v = rgV (rGp a) Z c e) := by
  obtain ⟨m1, m2, m3, m4⟩ := hM
  obtain ⟨f1, f2, f3, f4⟩ := m4 hd
  have wp := WG_gp hP hd
  have wg := hP.1
  have hB : qB (rG a) ≤ 20 := wp.1
  have hE : qE (rG a) ≤ 40 := wp.2.1
  obtain ⟨p0, p1⟩ := fin_facts hP hd he
  have b2 := (ff4_0 (why_0 (hP.2.2.2 hd).1).1).2.2.1
  have e40 : (40 : Int32) * nI r + nI c = nI (40 * r + c) := by rw [show (40 : Int32) = nI 40 from rfl, nImul, nIadd]
  have wc := wg.2.2.2.1 c hc
  refine ok_b (x9_lay (kn := fun j => !(tb (rGp a) j)) (x := (rlg a).2.1) hr m1 wg (fun e' he' => f2.1 e' he') (fun e' he' _ => (f3.1 e' (by omega)).2) (fun j hj => ?_)) ?_
  · show (!(tb (rGp a) j)) = false
    rw [(tb_iff (G := rGp a)).mpr (Or.inl hj)]; rfl
  · rintro - H1 ⟨q1, g43, gy⟩
    have hC1 : Ch TT LRN H H1 := Ch.tr (fun _ q => q) rfl (Ch.rf H) q1
    have hG1 := MG_ch m1 q1 rfl
    have gy' : LY (rGp a) (fun j => !(tb (rGp a) j)) (rlg a).2.1 (lk (rGp a)) H1 := LY_sg gy
    rw [e40, gd_nI (by omega) (by decide), nI_clamp (n := 40 * r + c) (by omega)]
    simp only [vl]
    rw [gd_nI (by omega) (by decide), hG1.2.2.2.2.2.1 c hc, hG1.2.2.2.2.1 c hc]
    refine x9_rg_104 (fun H2 q2 => ?_)
    refine x9_rg_134 (by omega) (fun H3 q3 h35 => ?_)
    have q13 : Ch TT LRG H1 H3 := Ch.tr (fun _ q => q) rfl q2 q3
    refine x9_rg_167 wp p0 b2 hcut (Or.inl wc.2.1) (Or.inl wc.1) g43 gy' q13 (RS_0 (by omega) h35) (fun M H4 q4 hS4 hMf => ?_)
    refine x9_rg_294 wp p0 (Nat.lt_trans he (lk_gt (rGp a))) hcut (by omega) (by omega) (LY_ch gy' q4 rfl) hS4 hMf (fun v hv => ⟨Ch.tr (fun _ q => q) rfl hC1 q4, ?_⟩)
    rw [hv]
    unfold rgV
    rw [show lT (rGp a) c = qT (rG a) c from lT_e (G := rGp a) hc, show lF (rGp a) c = qF (rG a) c from lF_e (G := rGp a) hc]
theorem hasC_no {r : Nat} {a : Rt} {H : Hp} (hC : CR r a H) (hd : rD a = true) {b : Int32} (hb : ¬ (0 ≤ b ∧ b < nI (qE (rG a)))) : f_X2_hasCounter r b H = some (0, H) := by
  obtain ⟨c1, c2, c3, c4, c5⟩ := hC
  rw [hd] at c3
  unfold f_X2_hasCounter
  rw [c3, if_neg (by decide), he_x3 c2.2.1, bnd_s, if_neg hb, if_pos rfl]
theorem eq_ring {nr : Nat} {H : Hp} (h : Rel nr H) (a b c : Int32) : ok (f_X8_ring nr a b c H) (fun x H1 => ok (f_X9_ring a b c H1) (fun y H2 => y = x ∧ Rel nr H2)) := by
  obtain ⟨hRR, ρ, w, hr, hK, hC, hM⟩ := id h
  have h8 := hRR.1
  have hR0 := Rel_no h
  rcases arg_cases a (n := nr) (by omega) with ⟨r, hrn, rfl⟩ | ha
  · obtain ⟨b1, b2, b3⟩ := hr r hrn
    have hE := b1.1.2.1
    have m0 := MR_34 b3 0
    unfold f_X8_ring f_X8_finishedWithEdge
    rw [fin_yes hRR hrn, bnd_s, b2.2.2.1]
    cases hd : rD (ρ r) with
    | false =>
      rw [if_pos (show bI false = 0 from rfl), nz_n, bnd_s, nz_n]
      refine ok_s ?_
      unfold f_X9_ring
      rw [hl_e, dn_yes hR0.1 hrn, bnd_s, m0.2.1, hd, if_pos (show bI false = 0 from rfl), if_pos rfl]
      exact ok_s ⟨rfl, hR0⟩
    | true =>
      have hd3 : gI (sI H 0 0 34 0) 0 3 r = bI true := by rw [m0.2.1, hd]
      rw [if_neg (show ¬ bI true = 0 by decide), nz_s hrn, he_x3 b2.2.1.2.1, bnd_s]
      rcases arg_cases c (n := qE (rG (ρ r))) (by omega) with ⟨e, he, rfl⟩ | hc
      · rw [if_pos (ar_in he (by omega)), if_neg (by decide), bnd_s, nz_s hrn]
        rcases arg_cases b (n := qE (rG (ρ r))) (by omega) with ⟨d, hdd, rfl⟩ | hb
        · rw [x2_hasCounter b1 b2 hd hdd, bnd_s]
          have f := b2.2.2.2.2 hd
          obtain ⟨g1, g2, g3, g4⟩ := m0.2.2.2 hd
          have m11d := g2.1 d hdd
          have m11e := g2.1 e he
          have e40 : ∀ j, (40 : Int32) * nI r + nI j = nI (40 * r + j) := fun j => by rw [show (40 : Int32) = nI 40 from rfl, nImul, nIadd]
          have pre : f_X9_ring (nI r) (nI d) (nI e) H = (if bI (!(tb (rGp (ρ r)) d)) = 0 then some ((-1), sI H 0 0 34 0) else if nI d = nI e then some (1, sI H 0 0 34 0) else (if bI (!(tb (rGp (ρ r)) e)) = 0 then bnd (f_X9_lay (nI r) (sI H 0 0 34 0)) (fun w15 H14 => gd ((40 * nI r) + nI d) 320 (vl ((gI H14 0 7 (Int32.toNatClampNeg ((40 * nI r) + nI d)))) (fun v16 => gd ((40 * nI r) + nI d) 320 (vl ((gI H14 0 6 (Int32.toNatClampNeg ((40 * nI r) + nI d)))) (fun v17 => L_X9_ring_104 (nI e) v16 v17 (fun H21 => L_X9_ring_134 (nI e) v16 v17 (fun H28 => L_X9_ring_167 (nI e) v16 v17 (fun H45 => L_X9_ring_294 (nI e) v16 (fun H57 => some (0, H57)) FU v17 H45) FU 1 H28) FU 0 H21) FU 0 H14))))) else some (0, sI H 0 0 34 0))) := by
            unfold f_X9_ring
            rw [hl_e]
            generalize sI H 0 0 34 0 = H0 at hR0 m0 hd3 m11d m11e ⊢
            rw [dn_yes hR0.1 hrn, bnd_s, hd3, if_neg (show ¬ bI true = 0 by decide), if_neg (by decide), ie_yes hR0.1 hrn m0.1.2.1, bnd_s, if_pos (ar_in hdd (by omega)), if_neg (by decide), ie_yes hR0.1 hrn m0.1.2.1, bnd_s, if_pos (ar_in he (by omega)), if_neg (by decide), e40 d, e40 e, gd_nI (show 40 * r + d < 320 by omega) (by decide), gd_nI (show 40 * r + e < 320 by omega) (by decide), nI_clamp (n := 40 * r + d) (by omega), nI_clamp (n := 40 * r + e) (by omega), m11d, m11e]
          cases htd : tb (rGp (ρ r)) d with
          | true =>
            rw [if_pos (by rfl)]
            refine ok_s ?_
            rw [pre, htd, if_pos (by rfl)]
            exact ok_s ⟨rfl, hR0⟩
          | false =>
            rw [if_neg (by decide)]
            by_cases hde : d = e
            · have e5 : f_X5_placeInRing r (nI d) (nI e) H = some (1, H) := by
                unfold f_X5_placeInRing
                rw [if_pos (by rw [hde])]
              rw [e5, bnd_s]
              refine ok_s ?_
              rw [pre, htd, if_neg (by decide), if_pos (by rw [hde])]
              exact ok_s ⟨rfl, hR0⟩
            · have hne : ¬ nI d = nI e := by rw [nI_inj (by omega) (by omega)]; exact hde
              cases hte : tb (rGp (ρ r)) e with
              | false =>
                have e5 : f_X5_placeInRing r (nI d) (nI e) H = some (0, H) := by
                  unfold f_X5_placeInRing
                  rw [if_neg hne, gd_nI (by omega) (by decide), nI_clamp (n := e) (by omega), f.2.2.1.1 e (Nat.lt_trans he (lk_gt (rG (ρ r)))), hte, if_pos (by rfl)]
                rw [e5, bnd_s]
                refine ok_s ?_
                rw [pre, htd, if_neg (by decide), if_neg hne, hte, if_neg (by decide)]
                exact ok_s ⟨rfl, hR0⟩
              | true =>
                obtain ⟨p0, p1⟩ := fin_facts b1 hd he
                have hT : CT r (rGp (ρ r)) (rGp (ρ r)) H := f.2.2.1
                obtain ⟨Z, hcut, e5⟩ := x5_place (WG_gp b1 hd) p0 p1 b2.2.1.1 (CL_sg f.1) hT hdd he hde hte
                rw [e5, bnd_s]
                refine ok_s ?_
                rw [pre, htd, if_neg (by decide), if_neg hne, hte, if_pos (by rfl)]
                refine ok_m (x9_ringIn (by omega) b1 hd m0 hdd he hcut) ?_
                rintro y H2 ⟨q2, rfl⟩
                exact ⟨rfl, Rel_q (L1 := []) (L2 := LRN) hR0 (Ch.rf _) rfl rfl rfl q2 rfl rfl⟩
        · rw [hasC_no b2 hd hb, bnd_s, if_pos rfl]
          refine ok_s ?_
          unfold f_X9_ring
          rw [hl_e, dn_yes hR0.1 hrn, bnd_s, hd3, if_neg (show ¬ bI true = 0 by decide), if_neg (by decide), ie_yes hR0.1 hrn m0.1.2.1, bnd_s, if_neg hb, if_pos rfl]
          exact ok_s ⟨rfl, hR0⟩
      · rw [if_neg hc, if_pos rfl, bnd_s, nz_n]
        refine ok_s ?_
        unfold f_X9_ring
        rw [hl_e, dn_yes hR0.1 hrn, bnd_s, hd3, if_neg (show ¬ bI true = 0 by decide), if_neg (by decide), ie_yes hR0.1 hrn m0.1.2.1, bnd_s]
        refine ok_if (fun _ => ok_s ⟨rfl, hR0⟩) (fun _ => ?_)
        rw [ie_yes hR0.1 hrn m0.1.2.1, bnd_s, if_neg hc, if_pos rfl]
        exact ok_s ⟨rfl, hR0⟩
  · unfold f_X8_ring f_X8_finishedWithEdge
    rw [fin_no hRR ha, bnd_s, nz_n, bnd_s, nz_n]
    refine ok_s ?_
    unfold f_X9_ring
    rw [hl_e, dn_no hR0.1 ha, bnd_s, if_pos rfl]
    exact ok_s ⟨rfl, hR0⟩
