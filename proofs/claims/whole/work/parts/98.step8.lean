theorem x3_outOf {r b k : Nat} {G : Gr} {H : Hp} (h : CG r G H) (w : WG G) (hb : b < qB G) (hk : k < oN G b (qE G)) : f_X3_outOf r (nI b) (nI k) H = some (nI (eo G b k), H) := by
  have hB := w.1
  have h4 := w.2.2.2.2.1 b hb
  obtain ⟨e, e1, e2, e3, e4⟩ := out_get h hk
  obtain ⟨g1, g2, g3, g4, g5, -⟩ := id h
  unfold f_X3_outOf
  simp (disch := omega) only [l0, nI_lt_iff, if_neg, if_pos, gd_nI, nI_clamp, g5, l4, nImul, nIadd, e4]
  rw [eo_eq e1 e2 e3]
theorem x6_choose {n : Nat} {ch fk : Int32} {H : Hp} (h7 : gI H 1 2 7 = fk) (h8 : gI H 1 2 8 = ch) (h1 : 2 ≤ n) (h2 : n ≤ 4) : f_X6_choose (nI n) H = some (nI (cho ch fk n), sI H 1 2 7 (fk + 1)) := by
  have d16 : decide (¬ (16 : Int32) = (0 : Int32)) = true := by decide
  have dn : decide (¬ nI n = (0 : Int32)) = true := decide_eq_true (nI_ne0 (by omega) (by omega))
  have hle : ¬ nI n ≤ 0 := nI_nle (by omega) (by omega)
  unfold f_X6_choose
  rw [d16, gb_t]
  simp only [vl, hl_e, h7, h8]
  rw [if_neg hle, dn, gb_t]
  have := cho_eq ch fk h1 h2
  unfold bits at this
  rw [this]
/-- a step of the class -/
theorem c_step {nr : Nat} {ch : Int32} {s : StT} {H : Hp} (h : T8 nr s.1 s.2.1 H) (hK : PK nr s.1 s.2.1) (ht : wT s.2.1 = 1) (h7 : gI H 1 2 7 = s.2.2) (h8 : gI H 1 2 8 = ch) : ok (f_X6_step nr H) (fun _ H' => T8 nr (stA nr ch s).1 (stA nr ch s).2.1 H' ∧ gI H' 1 2 7 = (stA nr ch s).2.2 ∧ gI H' 1 2 8 = ch) := by
  obtain ⟨ρ, w, fk⟩ := s
  dsimp only at h hK ht h7
  obtain ⟨hk1, hk2, hk3, hk4, hk5⟩ := id hK
  have hF : 0 < wF w := hk3.mp ht
  obtain ⟨m, hm⟩ : ∃ m, wF w = m + 1 := ⟨wF w - 1, by omega⟩
  have hm1 : wF w - 1 = m := by omega
  obtain ⟨a1, a2, a3⟩ := hk4 (wF w - 1) (by omega)
  obtain ⟨p1, c1⟩ := h.2.1 _ a1
  have wg := p1.1
  have hw := (p1.2.2.2 a2).1
  have hkk := wg.2.2.1 _ a3
  have hB := wg.1
  obtain ⟨o1, o2⟩ := oG_n wg hw a3
  obtain ⟨k1, k2, k3, k4, k5⟩ := id h.2.2
  obtain ⟨u1, u2, u3⟩ := k5 (wF w - 1) (by omega)
  have g8 := c1.2.1.2.2.1 _ a3
  have g10 := c1.2.1.2.2.2.2.1 (wB w (wF w - 1)) (by omega)
  have g9 := c1.2.1.2.2.2.1 _ a3
  have ktop : f_X6_topRoutine H = some (some (wR w (wF w - 1)), H) := by
    rw [top_s (F := m) (by omega) (by rw [k1, hm]), ← hm1, u1]
  have sub1 : nI (wF w) - 1 = nI (wF w - 1) := nI_sub (b := 1) (by omega)
  unfold f_X6_step stA
  rw [ktop, bnd_s, nz_s a1, k1, sub1, gd_nI (by omega) (by decide), nI_clamp (n := wF w - 1) (by omega), u2]
  simp only [vl]
  rw [gd_nI (by omega) (by decide), nI_clamp (n := wB w (wF w - 1)) (by omega), g8]
  have e0 : (nI (qK (rG (ρ (wR w (wF w - 1)))) (wB w (wF w - 1))) = 0) ↔ tpK (ρ, w, fk) = 0 := nI_inj (b := 0) (by omega) (by omega)
  have e1 : (nI (qK (rG (ρ (wR w (wF w - 1)))) (wB w (wF w - 1))) = 1) ↔ tpK (ρ, w, fk) = 1 := nI_inj (b := 1) (by omega) (by omega)
  have e2 : (nI (qK (rG (ρ (wR w (wF w - 1)))) (wB w (wF w - 1))) = 2) ↔ tpK (ρ, w, fk) = 2 := nI_inj (b := 2) (by omega) (by omega)
  have e3 : (nI (qK (rG (ρ (wR w (wF w - 1)))) (wB w (wF w - 1))) = 3) ↔ tpK (ρ, w, fk) = 3 := nI_inj (b := 3) (by omega) (by omega)
  by_cases q0 : tpK (ρ, w, fk) = 0
  · rw [if_pos (e0.mpr q0), if_pos q0]
    have o := o2 (Or.inl q0)
    have hko : 0 < oN (rG (ρ (wR w (wF w - 1)))) (wB w (wF w - 1)) (qE (rG (ρ (wR w (wF w - 1))))) := by rw [o]; decide
    have hx : f_X3_outOf (wR w (wF w - 1)) (nI (wB w (wF w - 1))) 0 H = some (nI (eo (rG (ρ (wR w (wF w - 1)))) (wB w (wF w - 1)) 0), H) := x3_outOf c1.2.1 wg a3 hko
    rw [hx, bnd_s]
    refine ok_b (ok_and (c_cross h hF hk1 a1 a2 (eo_ok hko).1) (fun x H' e => ch_X6_cross (Ch.rf H) e)) ?_
    rintro _ H1 ⟨t1, q1⟩
    exact ok_s ⟨t1, by rw [(q1 1 2 7 rfl).1]; exact h7, by rw [(q1 1 2 8 rfl).1]; exact h8⟩
  · rw [if_neg (fun z => q0 (e0.mp z)), if_neg q0]
    by_cases q1 : tpK (ρ, w, fk) = 1
    · rw [if_pos (e1.mpr q1), if_pos q1, gd_nI (by omega) (by decide), g10]
      have oo := o1 q1
      rw [x6_choose h7 h8 oo.1 oo.2, bnd_s]
      have hC7 : Ch TT [(1, 2, some 7)] H (sI H 1 2 7 (fk + 1)) := Ch.sI rfl rfl (Ch.rf H)
      have h' : T8 nr ρ w (sI H 1 2 7 (fk + 1)) := by
        refine T8_w h (Ch.sI rfl rfl (Ch.rf H)) ⟨?_, ?_, ?_, ?_, fun f hf => ?_⟩
        · rw [gI_ne (by omega)]; exact k1
        · rw [gI_ne (by omega)]; exact k2
        · rw [gI_ne (by omega)]; exact k3
        · rw [gI_ne (by omega)]; exact k4
        · rw [gR_sI, gI_ne (by omega), gJ_sI]; exact k5 f hf
      have hch : cho ch fk (oN (rG (ρ (wR w (wF w - 1)))) (wB w (wF w - 1)) (qE (rG (ρ (wR w (wF w - 1)))))) < oN (rG (ρ (wR w (wF w - 1)))) (wB w (wF w - 1)) (qE (rG (ρ (wR w (wF w - 1))))) := Nat.mod_lt _ (by omega)
      rw [x3_outOf (h'.2.1 _ a1).2.2.1 wg a3 hch, bnd_s]
      refine ok_b (ok_and (c_cross h' hF hk1 a1 a2 (eo_ok hch).1) (fun x H' e => ch_X6_cross (Ch.rf _) e)) ?_
      rintro _ H1 ⟨t1, qq⟩
      exact ok_s ⟨t1, by rw [(qq 1 2 7 rfl).1, gI_eq]; rfl, by rw [(qq 1 2 8 rfl).1, gI_ne (by omega)]; exact h8⟩
    · rw [if_neg (fun z => q1 (e1.mp z)), if_neg q1]
      by_cases q2 : tpK (ρ, w, fk) = 2
      · rw [if_pos (e2.mpr q2), if_pos q2, gd_nI (by omega) (by decide), g9]
        have q2' : qK (rG (ρ (wR w (wF w - 1)))) (wB w (wF w - 1)) = 2 := q2
        obtain ⟨c, hc8, hcc⟩ : ∃ c, c < 8 ∧ qC (rG (ρ (wR w (wF w - 1)))) (wB w (wF w - 1)) = nI c := by
          rcases wg.2.2.2.2.2 _ a3 with ⟨-, z⟩ | ⟨z, -⟩
          · exact z
          · exact absurd q2' z
        have hcal : calN (ρ, w, fk) = c := by
          show (qC (rG (ρ (wR w (wF w - 1)))) (wB w (wF w - 1))).toNatClampNeg = c
          rw [hcc, nI_clamp (by omega)]
        rw [hcc, hcal]
        have hdrop : ok (bnd (f_X6_dropFrames nr H) (fun _ H5 => hl (sI H5 1 2 4 4) (fun H7 => some ((), H7)))) (fun _ H' => T8 nr (dropR ρ w) (noF w 4) H') := by
          refine ok_b (c_drop h ⟨hk1, hk4⟩) ?_
          rintro _ H5 t5
          rw [hl_e]
          obtain ⟨x1, x2, x3, x4, x5⟩ := id t5.2.2
          refine ok_s (T8_w t5 (Ch.sI rfl rfl (Ch.rf _)) ⟨?_, ?_, ?_, ?_, fun f hf => absurd hf (Nat.not_lt_zero _)⟩)
          · rw [gI_ne (by omega)]; exact x1
          · rw [gI_eq]; rfl
          · rw [gI_ne (by omega)]; exact x3
          · rw [gI_ne (by omega)]; exact x4
        have hen : ok (f_X6_enterCalled nr (nI c) H) (fun _ H' => T8 nr (if c < nr ∧ rD (ρ c) = true ∧ wF w < 30 then (entR ρ c, entW w c, fk) else (dropR ρ w, noF w 4, fk)).1 (if c < nr ∧ rD (ρ c) = true ∧ wF w < 30 then (entR ρ c, entW w c, fk) else (dropR ρ w, noF w 4, fk)).2.1 H') := by
          unfold f_X6_enterCalled
          simp only [jn]
          rw [if_neg (nI_pos (by omega)), if_pos (by show nI c < nI 8; rw [nI_lt_iff (by omega) (by omega)]; exact hc8), gd_nI hc8 (by decide), nI_clamp (n := c) (by omega)]
          simp only [vl]
          by_cases hcn : c < nr
          · rw [h.1.2.2.2.1 c hcn, nz_s hcn]
            obtain ⟨pc, cc⟩ := h.2.1 c hcn
            rw [cc.2.2.1]
            cases hdc : rD (ρ c) with
            | false =>
              rw [if_pos (show bI false = 0 from rfl), if_neg (fun z => by cases z.2.1)]
              exact hdrop
            | true =>
              rw [if_neg (by decide), k1]
              by_cases h30 : wF w < 30
              · rw [if_pos (by show nI (wF w) < nI 30; rw [nI_lt_iff (by omega) (by omega)]; exact h30), if_pos ⟨hcn, rfl, h30⟩]
                refine ok_b (c_enter h hcn hdc h30) ?_
                rintro _ H5 t5
                exact ok_s t5
              · rw [if_neg (by show ¬ nI (wF w) < nI 30; rw [nI_lt_iff (by omega) (by omega)]; exact h30), if_neg (fun z => h30 z.2.2)]
                exact hdrop
          · rw [h.1.2.2.2.2 c (by omega) hc8, nz_n, if_neg (fun z => hcn z.1)]
            exact hdrop
        refine ok_b (ok_and hen (fun x H' e => ch_X6_enterCalled (Ch.rf H) e)) ?_
        rintro _ H1 ⟨t1, qq⟩
        refine ok_s ⟨t1, ?_, by rw [(qq 1 2 8 rfl).1]; exact h8⟩
        rw [(qq 1 2 7 rfl).1, h7]
        by_cases hcond : c < nr ∧ rD (ρ c) = true ∧ wF w < 30
        · rw [if_pos hcond]
        · rw [if_neg hcond]
      · rw [if_neg (fun z => q2 (e2.mp z)), if_neg q2]
        by_cases q3 : tpK (ρ, w, fk) = 3
        · rw [if_pos (e3.mpr q3), if_pos q3]
          have hlv : ok (f_X6_leave nr (wR w (wF w - 1)) H) (fun _ H' => T8 nr (if wF w = 1 then (cnR ρ w, lwW w 2, fk) else crS (cnR ρ w, lwW w (wT w), fk) (eo (tpG (ρ, lwW w 0, fk)) (tpB (ρ, lwW w 0, fk)) 0) fk).1 (if wF w = 1 then (cnR ρ w, lwW w 2, fk) else crS (cnR ρ w, lwW w (wT w), fk) (eo (tpG (ρ, lwW w 0, fk)) (tpB (ρ, lwW w 0, fk)) 0) fk).2.1 H') := by
            unfold f_X6_leave
            rw [k1, sub1, gd_nI (by omega) (by decide), nI_clamp (n := wF w - 1) (by omega), u3]
            refine ok_b (cT_count h a1 a2) ?_
            rintro _ H1 t1
            have t1' : T8 nr (cnR ρ w) w H1 := t1
            obtain ⟨x1, x2, x3, x4, x5⟩ := id t1'.2.2
            rw [x1, sub1, hl_e]
            have t2 : T8 nr (cnR ρ w) (lwW w (wT w)) (sI H1 1 2 3 (nI (wF w - 1))) := by
              refine T8_w t1' (Ch.sI rfl rfl (Ch.rf _)) ⟨gI_eq _ _ _ _ _, ?_, ?_, ?_, fun f hf => ?_⟩
              · rw [gI_ne (by omega)]; exact x2
              · rw [gI_ne (by omega)]; exact x3
              · rw [gI_ne (by omega)]; exact x4
              · have hf' : f < wF w - 1 := hf
                rw [gR_sI, gI_ne (by omega), gJ_sI]; exact x5 f (by omega)
            generalize sI H1 1 2 3 (nI (wF w - 1)) = H2 at t2 ⊢
            obtain ⟨y1, y2, y3, y4, y5⟩ := id t2.2.2
            have y1' : gI H2 1 2 3 = nI (wF w - 1) := y1
            by_cases hf1 : wF w = 1
            · rw [if_pos hf1]
              have hz : wF w - 1 = 0 := by omega
              rw [top_0 (by rw [y1', hz]), bnd_s, nz_n, hl_e]
              refine ok_s (T8_w t2 (Ch.sI rfl rfl (Ch.rf _)) ⟨?_, ?_, ?_, ?_, fun f hf => ?_⟩)
              · rw [gI_ne (by omega)]; exact y1
              · rw [gI_eq]; rfl
              · rw [gI_ne (by omega)]; exact y3
              · rw [gI_ne (by omega)]; exact y4
              · have hf' : f < wF w - 1 := hf
                omega
            · rw [if_neg hf1]
              obtain ⟨b1, b2, b3⟩ := hk4 (wF w - 1 - 1) (by omega)
              have hgr := (shp_cn ρ w (wR w (wF w - 1 - 1))).1
              have hdr := (shp_cn ρ w (wR w (wF w - 1 - 1))).2
              obtain ⟨pb, cb⟩ := t2.2.1 _ b1
              have kb : qK (rG (ρ (wR w (wF w - 1 - 1)))) (wB w (wF w - 1 - 1)) = 2 := hk5 (wF w - 1 - 1) (by omega)
              have pb0 := h.2.1 _ b1
              have ob := (oG_n pb0.1.1 (pb0.1.2.2.2 b2).1 b3).2 (Or.inr kb)
              have hko : 0 < oN (rG (ρ (wR w (wF w - 1 - 1)))) (wB w (wF w - 1 - 1)) (qE (rG (ρ (wR w (wF w - 1 - 1))))) := by rw [ob]; decide
              obtain ⟨z1, z2, z3⟩ := y5 (wF w - 1 - 1) (by show wF w - 1 - 1 < wF w - 1; omega)
              have z1' : gR H2 1 4 (wF w - 1 - 1) = some (wR w (wF w - 1 - 1)) := z1
              have z2' : gI H2 1 5 (wF w - 1 - 1) = nI (wB w (wF w - 1 - 1)) := z2
              have sub2 : nI (wF w - 1) - 1 = nI (wF w - 1 - 1) := nI_sub (b := 1) (by omega)
              have hBb := pb0.1.1.1
              rw [top_s (F := wF w - 1 - 1) (by omega) (by rw [y1']; congr 1; omega), z1', bnd_s, nz_s b1, y1', sub2, gd_nI (by omega) (by decide), nI_clamp (n := wF w - 1 - 1) (by omega), z2']
              have hx : f_X3_outOf (wR w (wF w - 1 - 1)) (nI (wB w (wF w - 1 - 1))) 0 H2 = some (nI (eo (rG (ρ (wR w (wF w - 1 - 1)))) (wB w (wF w - 1 - 1)) 0), H2) := by
                have := x3_outOf (k := 0) (b := wB w (wF w - 1 - 1)) cb.2.1 (by rw [hgr]; exact pb0.1.1) (by rw [hgr]; exact b3) (by rw [hgr]; exact hko)
                rw [hgr] at this
                exact this
              rw [hx, bnd_s]
              refine ok_b (c_cross (w := lwW w (wT w)) t2 (by show 0 < wF w - 1; omega) (by show wF w - 1 ≤ 30; omega) b1 (by show rD (cnR ρ w (wR w (wF w - 1 - 1))) = true; rw [hdr]; exact b2) (by show _ < qE (rG (cnR ρ w (wR w (wF w - 1 - 1)))); rw [hgr]; exact (eo_ok hko).1)) ?_
              rintro _ H3 t3
              exact ok_s t3
          refine ok_b (ok_and hlv (fun x H' e => ch_X6_leave (Ch.rf H) e)) ?_
          rintro _ H1 ⟨t1, qq⟩
          refine ok_s ⟨t1, ?_, by rw [(qq 1 2 8 rfl).1]; exact h8⟩
          rw [(qq 1 2 7 rfl).1, h7]
          by_cases hf1 : wF w = 1
          · rw [if_pos hf1]
          · rw [if_neg hf1]; rfl
        · rw [if_neg (fun z => q3 (e3.mp z)), if_neg q3, gd_nI (by omega) (by decide), u3]
          refine ok_b (ok_and (cT_count h a1 a2) (fun x H' e => ch_X4_count (Ch.rf H) e)) ?_
          rintro _ H1 ⟨t1, qa⟩
          have t1' : T8 nr (cnR ρ w) w H1 := t1
          refine ok_b (ok_and (c_drop t1' ⟨hk1, fun f hf => by rw [(shp_cn ρ w _).1, (shp_cn ρ w _).2]; exact hk4 f hf⟩) (fun x H' e => ch_X6_dropFrames (Ch.rf H1) e)) ?_
          rintro _ H2 ⟨t2, qb⟩
          rw [hl_e]
          obtain ⟨x1, x2, x3, x4, x5⟩ := id t2.2.2
          refine ok_s ⟨T8_w t2 (Ch.sI rfl rfl (Ch.rf _)) ⟨?_, ?_, ?_, ?_, fun f hf => absurd hf (Nat.not_lt_zero _)⟩, ?_, ?_⟩
          · rw [gI_ne (by omega)]; exact x1
          · rw [gI_eq]; rfl
          · rw [gI_ne (by omega)]; exact x3
          · rw [gI_ne (by omega)]; exact x4
          · rw [gI_ne (by omega), (qb 1 2 7 rfl).1, (qa 1 2 7 rfl).1]; exact h7
          · rw [gI_ne (by omega), (qb 1 2 8 rfl).1, (qa 1 2 8 rfl).1]; exact h8
