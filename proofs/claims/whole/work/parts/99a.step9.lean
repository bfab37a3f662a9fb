theorem T9_34 {nr : Nat} {ρ : Nat → Rt} {w : Wk} {H : Hp} (h : T9 nr ρ w H) (v : Int32) : T9 nr ρ w (sI H 0 0 34 v) := ⟨RR_sI h.1 (by omega) (by omega), fun r hr => ⟨(h.2.1 r hr).1, MR_34 (h.2.1 r hr).2 v⟩, MK_34 h.2.2 v⟩
theorem T9_k {nr : Nat} {ρ : Nat → Rt} {w : Wk} {H : Hp} (h : T9 nr ρ w H) {i : Nat} {v : Int32} {w' : Wk} (hi : i = 27 ∨ i = 28 ∨ i = 29 ∨ i = 30) (h1 : (if i = 28 then v else nI (wF w)) = nI (wF w')) (h2 : (if i = 27 then v else nI (wT w)) = nI (wT w')) (h3 : (if i = 29 then v else wN w) = wN w') (h4 : (if i = 30 then v else wP w) = wP w') (h5 : wF w' ≤ wF w ∧ wR w' = wR w ∧ wB w' = wB w ∧ wS w' = wS w) : T9 nr ρ w' (sI H 0 0 i v) := by
  obtain ⟨k1, k2, k3, k4, k5⟩ := id h.2.2
  have q : Ch TT LMK H (sI H 0 0 i v) := by
    rcases hi with rfl | rfl | rfl | rfl <;> exact Ch.sI rfl rfl (Ch.rf H)
  refine T9_w h q ⟨?_, ?_, ?_, ?_, fun f hf => ?_⟩
  · rw [← h1, gI_sI]
    by_cases z : i = 28
    · rw [if_pos ⟨rfl, rfl, z.symm⟩, if_pos z]
    · rw [if_neg (fun u => z u.2.2.symm), if_neg z]; exact k1
  · rw [← h2, gI_sI]
    by_cases z : i = 27
    · rw [if_pos ⟨rfl, rfl, z.symm⟩, if_pos z]
    · rw [if_neg (fun u => z u.2.2.symm), if_neg z]; exact k2
  · rw [← h3, gI_sI]
    by_cases z : i = 29
    · rw [if_pos ⟨rfl, rfl, z.symm⟩, if_pos z]
    · rw [if_neg (fun u => z u.2.2.symm), if_neg z]; exact k3
  · rw [← h4, gI_sI]
    by_cases z : i = 30
    · rw [if_pos ⟨rfl, rfl, z.symm⟩, if_pos z]
    · rw [if_neg (fun u => z u.2.2.symm), if_neg z]; exact k4
  · rw [h5.2.1, h5.2.2.1, h5.2.2.2, gI_ne (by omega), gI_ne (by omega), gJ_sI]
    exact k5 f (by omega)
/-- a step of the reference -/
theorem m_step {nr : Nat} {ch : Int32} {s : StT} {H : Hp} {KK : Int32 → Hp → Option (Int32 × Hp)} {Q : Int32 → Hp → Prop} (h : T9 nr s.1 s.2.1 H) (hK : PK nr s.1 s.2.1) (ht : wT s.2.1 = 1) (K : ∀ H', T9 nr (stA nr ch s).1 (stA nr ch s).2.1 H' → ok (KK (stA nr ch s).2.2 H') Q) : ok (gd ((gI H 0 0 28) - 1) 30 (vl ((gI H 0 31 (Int32.toNatClampNeg ((gI H 0 0 28) - 1)))) (fun (v10 : Int32) => gd ((gI H 0 0 28) - 1) 30 (vl ((gI H 0 32 (Int32.toNatClampNeg ((gI H 0 0 28) - 1)))) (fun (v11 : Int32) => gd ((20 * v10) + v11) 160 (vl ((gI H 0 5 (Int32.toNatClampNeg ((20 * v10) + v11)))) (fun (v12 : Int32) => gd ((20 * v10) + v11) 160 (vl (gI H 0 4 (Int32.toNatClampNeg ((20 * v10) + v11))) (fun (v13 : Int32) => if v13 = 0 then bnd (f_X9_goes 0 H) (fun w48 H47 => KK s.2.2 H47) else (if v13 = 1 then gb (decide (¬ 16 = (0 : Int32))) (bnd (f_X9_outs v10 v11 H) (fun w43 H42 => gb (decide (¬ w43 = (0 : Int32))) (bnd (f_X9_goes (((ch >>> ((2 * (s.2.2 - s.2.2 / 16 * 16)) &&& 31)) &&& 3) - ((ch >>> ((2 * (s.2.2 - s.2.2 / 16 * 16)) &&& 31)) &&& 3) / w43 * w43) H42) (fun w45 H44 => vl (s.2.2 + (1 : Int32)) (fun (v46 : Int32) => KK v46 H44))))) else (if v13 = 2 then bnd (f_X9_isDone v12 H) (fun w31 H30 => if w31 = 0 then hl (sI H30 0 0 27 4) (fun (H33 : Hp) => bnd (f_X9_allGo H33) (fun w35 H34 => KK s.2.2 H34)) else if (gI H30 0 0 28) = 30 then hl (sI H30 0 0 27 4) (fun (H39 : Hp) => bnd (f_X9_allGo H39) (fun w41 H40 => KK s.2.2 H40)) else bnd (f_X9_comes v12 H30) (fun w38 H37 => KK s.2.2 H37)) else (if v13 = 3 then gd ((gI H 0 0 28) - 1) 30 (bnd (f_X9_ends v10 (gJ H 0 33 (Int32.toNatClampNeg ((gI H 0 0 28) - 1))) H) (fun w24 H23 => hl (sI H23 0 0 28 ((gI H23 0 0 28) - 1)) (fun (H25 : Hp) => if (gI H25 0 0 28) = 0 then hl (sI H25 0 0 27 2) (fun (H29 : Hp) => KK s.2.2 H29) else bnd (f_X9_goes 0 H25) (fun w28 H27 => KK s.2.2 H27)))) else (gd ((gI H 0 0 28) - 1) 30 (bnd (f_X9_ends v10 (gJ H 0 33 (Int32.toNatClampNeg ((gI H 0 0 28) - 1))) H) (fun w19 H18 => hl (sI H18 0 0 27 3) (fun (H20 : Hp) => bnd (f_X9_allGo H20) (fun w22 H21 => KK s.2.2 H21))))))))))))))))) Q := by
  obtain ⟨ρ, w, fk⟩ := s
  dsimp only at h hK ht K ⊢
  have hn8 := h.1.1
  obtain ⟨hk1, hk2, hk3, hk4, hk5⟩ := id hK
  have hF : 0 < wF w := hk3.mp ht
  obtain ⟨a1, a2, a3⟩ := hk4 (wF w - 1) (by omega)
  obtain ⟨p1, c1⟩ := h.2.1 _ a1
  have wg := p1.1
  have hw := (p1.2.2.2 a2).1
  have hkk := wg.2.2.1 _ a3
  have hB := wg.1
  obtain ⟨o1, o2⟩ := oG_n wg hw a3
  obtain ⟨k1, k2, k3, k4, k5⟩ := id h.2.2
  obtain ⟨u1, u2, u3⟩ := k5 (wF w - 1) (by omega)
  have g4 := c1.1.2.2.1 _ a3
  have g5 := c1.1.2.2.2.1 _ a3
  have sub1 : nI (wF w) - 1 = nI (wF w - 1) := nI_sub (b := 1) (by omega)
  have h20 : (20 : Int32) * nI (wR w (wF w - 1)) + nI (wB w (wF w - 1)) = nI (20 * wR w (wF w - 1) + wB w (wF w - 1)) := by rw [l20, nImul, nIadd]
  rw [k1, sub1, gd_nI (by omega) (by decide), nI_clamp (n := wF w - 1) (by omega), u1]
  simp only [vl]
  rw [gd_nI (by omega) (by decide), u2, h20, gd_nI (by omega) (by decide), gd_nI (by omega) (by decide), nI_clamp (n := 20 * wR w (wF w - 1) + wB w (wF w - 1)) (by omega), g4, g5]
  have e0 : (nI (qK (rG (ρ (wR w (wF w - 1)))) (wB w (wF w - 1))) = 0) ↔ tpK (ρ, w, fk) = 0 := nI_inj (b := 0) (by omega) (by omega)
  have e1 : (nI (qK (rG (ρ (wR w (wF w - 1)))) (wB w (wF w - 1))) = 1) ↔ tpK (ρ, w, fk) = 1 := nI_inj (b := 1) (by omega) (by omega)
  have e2 : (nI (qK (rG (ρ (wR w (wF w - 1)))) (wB w (wF w - 1))) = 2) ↔ tpK (ρ, w, fk) = 2 := nI_inj (b := 2) (by omega) (by omega)
  have e3 : (nI (qK (rG (ρ (wR w (wF w - 1)))) (wB w (wF w - 1))) = 3) ↔ tpK (ρ, w, fk) = 3 := nI_inj (b := 3) (by omega) (by omega)
  unfold stA at K
  by_cases q0 : tpK (ρ, w, fk) = 0
  · rw [if_pos (e0.mpr q0)]
    rw [if_pos q0] at K
    have o := o2 (Or.inl q0)
    have hko : 0 < oN (rG (ρ (wR w (wF w - 1)))) (wB w (wF w - 1)) (qE (rG (ρ (wR w (wF w - 1))))) := by rw [o]; decide
    obtain ⟨z1, z2, z3⟩ := eo_ok hko
    refine ok_b (m_goes (k := 0) h hF hk1 a1 a2 a3 z1 z2 z3) ?_
    rintro _ H1 t1
    exact K H1 t1
  · rw [if_neg (fun z => q0 (e0.mp z))]
    rw [if_neg q0] at K
    by_cases q1 : tpK (ρ, w, fk) = 1
    · rw [if_pos (e1.mpr q1)]
      rw [if_pos q1] at K
      have oo := o1 q1
      have dn : decide (¬ nI (oN (rG (ρ (wR w (wF w - 1)))) (wB w (wF w - 1)) (qE (rG (ρ (wR w (wF w - 1)))))) = (0 : Int32)) = true := decide_eq_true (nI_ne0 (by omega) (by omega))
      have hch : cho ch fk (oN (rG (ρ (wR w (wF w - 1)))) (wB w (wF w - 1)) (qE (rG (ρ (wR w (wF w - 1)))))) < oN (rG (ρ (wR w (wF w - 1)))) (wB w (wF w - 1)) (qE (rG (ρ (wR w (wF w - 1))))) := Nat.mod_lt _ (by omega)
      have hce := cho_eq ch fk oo.1 oo.2
      unfold bits at hce
      rw [show decide (¬ (16 : Int32) = (0 : Int32)) = true from by decide, gb_t, m_outs c1.1 wg (by omega) (by omega), bnd_s, dn, gb_t, hce]
      obtain ⟨z1, z2, z3⟩ := eo_ok hch
      refine ok_b (m_goes h hF hk1 a1 a2 a3 z1 z2 z3) ?_
      rintro _ H1 t1
      exact K H1 t1
    · rw [if_neg (fun z => q1 (e1.mp z))]
      rw [if_neg q1] at K
      by_cases q2 : tpK (ρ, w, fk) = 2
      · rw [if_pos (e2.mpr q2)]
        rw [if_pos q2] at K
        have q2' : qK (rG (ρ (wR w (wF w - 1)))) (wB w (wF w - 1)) = 2 := q2
        obtain ⟨c, hc8, hcc⟩ : ∃ c, c < 8 ∧ qC (rG (ρ (wR w (wF w - 1)))) (wB w (wF w - 1)) = nI c := by
          rcases wg.2.2.2.2.2 _ a3 with ⟨-, z⟩ | ⟨z, -⟩
          · exact z
          · exact absurd q2' z
        have hcal : calN (ρ, w, fk) = c := by
          show (qC (rG (ρ (wR w (wF w - 1)))) (wB w (wF w - 1))).toNatClampNeg = c
          rw [hcc, nI_clamp (by omega)]
        rw [hcal] at K
        rw [hcc]
        have hdrop : ¬ (c < nr ∧ rD (ρ c) = true ∧ wF w < 30) → ok (hl (sI H 0 0 27 4) (fun (H33 : Hp) => bnd (f_X9_allGo H33) (fun w35 H34 => KK fk H34))) Q := by
          intro hn
          rw [if_neg hn] at K
          rw [hl_e]
          have t4 : T9 nr ρ (wF w, wR w, wB w, wS w, 4, wN w, wP w) (sI H 0 0 27 4) := T9_k h (Or.inl rfl) rfl rfl rfl rfl ⟨Nat.le_refl _, rfl, rfl, rfl⟩
          refine ok_b (m_allGo t4 ⟨hk1, hk4⟩) ?_
          rintro _ H1 t1
          exact K H1 t1
        by_cases hcn : c < nr
        · rw [dn_yes h.1 hcn, bnd_s, (h.2.1 c hcn).2.2.1]
          cases hdc : rD (ρ c) with
          | false =>
            rw [if_pos (show bI false = 0 from rfl), if_pos rfl]
            exact hdrop (fun z => by rw [hdc] at z; cases z.2.1)
          | true =>
            rw [if_neg (show ¬ bI true = 0 by decide), if_neg (by decide), k1]
            by_cases h30 : wF w < 30
            · rw [if_neg (by show ¬ nI (wF w) = nI 30; rw [nI_inj (by omega) (by omega)]; omega)]
              rw [if_pos ⟨hcn, hdc, h30⟩] at K
              refine ok_b (m_comes h hcn hdc h30) ?_
              rintro _ H1 t1
              exact K H1 t1
            · rw [if_pos (by show nI (wF w) = nI 30; rw [nI_inj (by omega) (by omega)]; omega)]
              exact hdrop (fun z => h30 z.2.2)
        · rw [dn_no h.1 (fun z => hcn ((nI_lt_iff (by omega) (by omega)).mp z.2)), bnd_s, if_pos rfl]
          exact hdrop (fun z => hcn z.1)
      · rw [if_neg (fun z => q2 (e2.mp z))]
        rw [if_neg q2] at K
        by_cases q3 : tpK (ρ, w, fk) = 3
        · rw [if_pos (e3.mpr q3), gd_nI (by omega) (by decide), u3]
          rw [if_pos q3] at K
          refine ok_b (mT_ends h a1 a2) ?_
          rintro _ H1 t1
          have t1' : T9 nr (cnR ρ w) w H1 := t1
          rw [t1'.2.2.1, sub1, hl_e]
          have t2 : T9 nr (cnR ρ w) (lwW w (wT w)) (sI H1 0 0 28 (nI (wF w - 1))) := T9_k t1' (Or.inr (Or.inl rfl)) rfl rfl rfl rfl ⟨Nat.sub_le _ _, rfl, rfl, rfl⟩
          generalize sI H1 0 0 28 (nI (wF w - 1)) = H2 at t2 ⊢
          have y1 : gI H2 0 0 28 = nI (wF w - 1) := t2.2.2.1
          by_cases hf1 : wF w = 1
          · rw [if_pos hf1] at K
            have hz : wF w - 1 = 0 := by omega
            rw [if_pos (by rw [y1, hz]; rfl), hl_e]
            exact K _ (T9_k t2 (Or.inl rfl) rfl rfl rfl rfl ⟨Nat.le_refl _, rfl, rfl, rfl⟩)
          · rw [if_neg hf1] at K
            rw [if_neg (by rw [y1]; exact nI_ne0 (by omega) (by omega))]
            obtain ⟨b1, b2, b3⟩ := hk4 (wF w - 1 - 1) (by omega)
            have hgr := (shp_cn ρ w (wR w (wF w - 1 - 1))).1
            have hdr := (shp_cn ρ w (wR w (wF w - 1 - 1))).2
            have pb0 := h.2.1 _ b1
            have kb : qK (rG (ρ (wR w (wF w - 1 - 1)))) (wB w (wF w - 1 - 1)) = 2 := hk5 (wF w - 1 - 1) (by omega)
            have ob := (oG_n pb0.1.1 (pb0.1.2.2.2 b2).1 b3).2 (Or.inr kb)
            have hko : 0 < oN (rG (ρ (wR w (wF w - 1 - 1)))) (wB w (wF w - 1 - 1)) (qE (rG (ρ (wR w (wF w - 1 - 1))))) := by rw [ob]; decide
            obtain ⟨z1, z2, z3⟩ := eo_ok hko
            refine ok_b (m_goes (w := lwW w (wT w)) (k := 0) (e := eo (rG (ρ (wR w (wF w - 1 - 1)))) (wB w (wF w - 1 - 1)) 0) t2 (by show 0 < wF w - 1; omega) (by show wF w - 1 ≤ 30; omega) b1 (by show rD (cnR ρ w (wR w (wF w - 1 - 1))) = true; rw [hdr]; exact b2) (by show wB w (wF w - 1 - 1) < qB (rG (cnR ρ w (wR w (wF w - 1 - 1)))); rw [hgr]; exact b3) (by show _ < qE (rG (cnR ρ w (wR w (wF w - 1 - 1)))); rw [hgr]; exact z1) (by show qF (rG (cnR ρ w (wR w (wF w - 1 - 1)))) _ = wB w (wF w - 1 - 1); rw [hgr]; exact z2) (by show oN (rG (cnR ρ w (wR w (wF w - 1 - 1)))) (wB w (wF w - 1 - 1)) _ = 0; rw [hgr]; exact z3)) ?_
            rintro _ H3 t3
            exact K H3 t3
        · rw [if_neg (fun z => q3 (e3.mp z)), gd_nI (by omega) (by decide), u3]
          rw [if_neg q3] at K
          refine ok_b (mT_ends h a1 a2) ?_
          rintro _ H1 t1
          have t1' : T9 nr (cnR ρ w) w H1 := t1
          rw [hl_e]
          have t4 : T9 nr (cnR ρ w) (wF w, wR w, wB w, wS w, 3, wN w, wP w) (sI H1 0 0 27 3) := T9_k t1' (Or.inl rfl) rfl rfl rfl rfl ⟨Nat.le_refl _, rfl, rfl, rfl⟩
          refine ok_b (m_allGo t4 ⟨hk1, fun f hf => by show wR w f < nr ∧ rD (cnR ρ w (wR w f)) = true ∧ wB w f < qB (rG (cnR ρ w (wR w f))); rw [(shp_cn ρ w _).1, (shp_cn ρ w _).2]; exact hk4 f hf⟩) ?_
          rintro _ H2 t2
          exact K H2 t2
