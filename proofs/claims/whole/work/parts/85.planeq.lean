/-- plan on both sides -/
theorem x6_hasFrame {nr : Nat} {ρ : Nat → Rt} {w : Wk} {H : Hp} (hr : ∀ r, r < nr → CR r (ρ r) H) (hK : PK nr ρ w) (hC : CK w H) {a : Nat} (ha : a < 8) (hn : nr ≤ 8) : f_X6_hasFrameOf nr (nI a) H = some (bI (anyB (fun f => decide (wR w f = a)) (wF w)), H) := by
  have h30 := hK.1
  suffices hs : ok (f_X6_hasFrameOf nr (nI a) H) (fun v H' => v = bI (anyB (fun f => decide (wR w f = a)) (wF w)) ∧ H' = H) by
    obtain ⟨v, H', e, rfl, rfl⟩ := hs
    exact e
  unfold f_X6_hasFrameOf
  refine ok_g1 (wF w) (fun i H' => H' = H ∧ anyB (fun f => decide (wR w f = a)) i = false) ?_ ?_ rfl ⟨rfl, rfl⟩ (FUgt (by omega))
  · rintro i n H1 hi ⟨rfl, hI⟩ K1
    obtain ⟨k1, k2, k3⟩ := hK.2.2.2.1 i hi
    obtain ⟨g1, g2, g3⟩ := hC.2.2.2.2 i hi
    have hof := x6_isOf k1 (show i < 30 by omega) g1 (hr _ k1).1 (nI a)
    rw [L_X6_hasFrameOf_2]
    simp (disch := omega) only [hC.1, nI_le_iff, if_neg, hof, bnd_s, nI_inj, vl, l1, nIadd]
    by_cases q : wR w i = a
    · simp only [if_pos q]
      rw [if_neg (by decide)]
      refine ok_s ⟨?_, rfl⟩
      rw [anyB_iff.mpr ⟨i, hi, decide_eq_true q⟩]; rfl
    · simp only [if_neg q, if_true]
      refine K1 _ ⟨rfl, ?_⟩
      rw [anyB_s, hI, decide_eq_false q]; rfl
  · rintro n H1 ⟨rfl, hI⟩
    rw [L_X6_hasFrameOf_2]
    simp (disch := omega) only [hC.1, nI_le_iff, if_pos]
    exact ok_s ⟨by rw [hI]; rfl, rfl⟩
theorem x9_plan_17 {nr a : Nat} {ρ : Nat → Rt} {w : Wk} {H : Hp} {k : Hp → Option (Int32 × Hp)} {Q : Int32 → Hp → Prop} (hK : PK nr ρ w) (hM : MK w H) (ha : a < 8) (hn : nr ≤ 8) (K0 : anyB (fun f => decide (wR w f = a)) (wF w) = true → Q (-1) H) (K1 : anyB (fun f => decide (wR w f = a)) (wF w) = false → ok (k H) Q) : ok (L_X9_plan_17 (nI a) k FU 0 H) Q := by
  have h30 := hK.1
  refine ok_g1 (wF w) (fun i H' => H' = H ∧ anyB (fun f => decide (wR w f = a)) i = false) ?_ ?_ rfl ⟨rfl, rfl⟩ (FUgt (by omega))
  · rintro i n H1 hi ⟨rfl, hI⟩ K2
    obtain ⟨k1, k2, k3⟩ := hK.2.2.2.1 i hi
    obtain ⟨g1, g2, g3⟩ := hM.2.2.2.2 i hi
    rw [L_X9_plan_17]
    simp (disch := omega) only [hM.1, nI_le_iff, if_neg, gd_nI, nI_clamp, g1, nI_inj, vl, l1, nIadd]
    refine ok_if (fun q => ok_s (K0 (anyB_iff.mpr ⟨i, hi, decide_eq_true q⟩))) (fun q => K2 _ ⟨rfl, ?_⟩)
    rw [anyB_s, hI, decide_eq_false q]; rfl
  · rintro n H1 ⟨rfl, hI⟩
    rw [L_X9_plan_17]
    simp (disch := omega) only [hM.1, nI_le_iff, if_pos]
    exact K1 hI
theorem Rel_34 {nr : Nat} {H : Hp} (h : Rel nr H) (v : Int32) : Rel nr (sI H 0 0 34 v) := Rel_q (L1 := []) (L2 := [(0, 0, some 34)]) h (Ch.rf H) rfl rfl rfl (Ch.sI rfl rfl (Ch.rf H)) rfl rfl
theorem MR_34 {r : Nat} {a : Rt} {H : Hp} (h : MR r a H) (v : Int32) : MR r a (sI H 0 0 34 v) := by
  have q : Ch TT [(0, 0, some 34)] H (sI H 0 0 34 v) := Ch.sI rfl rfl (Ch.rf H)
  obtain ⟨m1, m2, m3, m4⟩ := h
  refine ⟨MG_ch m1 q rfl, ?_, fun e he => ?_, fun z => MF_ch (m4 z) q rfl⟩
  · rw [q.gi _ _ _ rfl]; exact m2
  · rw [q.gi _ _ _ rfl]; exact m3 e he
theorem MK_34 {w : Wk} {H : Hp} (h : MK w H) (v : Int32) : MK w (sI H 0 0 34 v) := MK_ch (L := [(0, 0, some 34)]) h (Ch.sI (rs := TT) rfl rfl (Ch.rf H)) rfl
abbrev LPL : List (Nat × Nat × Option Nat) := [(0, 0, some 34), (0, 11, none), (0, 12, none), (0, 13, none), (0, 18, none), (0, 19, none), (0, 20, none), (0, 21, none), (0, 22, none), (0, 23, none), (0, 24, none), (0, 35, none), (0, 36, none), (0, 37, none), (0, 38, none)]
theorem eq_plan {nr : Nat} {H : Hp} (h : Rel nr H) (a : Int32) : ok (f_X8_plan nr a H) (fun x H1 => ok (f_X9_plan a H1) (fun y H2 => y = x ∧ Rel nr H2)) := by
  obtain ⟨hRR, ρ, w, hr, hK, hC, hM⟩ := id h
  have h8 := hRR.1
  have hRR' : RR nr (sI H 0 0 34 0) := RR_sI hRR (by omega) (by omega)
  unfold f_X8_plan
  rcases arg_cases a (n := nr) (by omega) with ⟨r, hrn, rfl⟩ | ha
  · obtain ⟨b1, b2, b3⟩ := hr r hrn
    rw [fin_yes hRR hrn, bnd_s, b2.2.2.1]
    simp only [l0, b_eq0]
    cases hd : rD (ρ r) with
    | false =>
      simp only [if_true, nz_n]
      refine ok_s ?_
      unfold f_X9_plan
      simp only [hl]
      have m3 := (MR_34 b3 0).2.1
      rw [hd] at m3
      rw [dn_yes hRR' hrn, bnd_s, m3]
      simp only [l0, b_eq0, if_true]
      exact ok_s ⟨rfl, Rel_34 h 0⟩
    | true =>
      simp only [Bool.true_eq_false, if_false, nz_s hrn]
      rw [x6_hasFrame (fun q hq => (hr q hq).2.1) hK hC (by omega) h8, bnd_s]
      simp only [b_eq0]
      have m3 := (MR_34 b3 0).2.1
      rw [hd] at m3
      cases hf : anyB (fun f => decide (wR w f = r)) (wF w) with
      | true =>
        rw [if_neg (by decide)]
        refine ok_s ?_
        unfold f_X9_plan
        simp only [hl]
        rw [dn_yes hRR' hrn, bnd_s, m3]
        simp only [l0, b_eq0, Bool.true_eq_false, if_false]
        rw [if_neg (by decide)]
        exact x9_plan_17 (ρ := ρ) hK (MK_34 hM 0) (by omega) h8 (fun _ => ⟨rfl, Rel_34 h 0⟩) (fun z => by rw [hf] at z; cases z)
      | false =>
        rw [if_pos rfl]
        obtain ⟨c1, c2, c3, c4, c5⟩ := b2
        obtain ⟨f1, f2, f3, f4, f5, f6, f7⟩ := c5 hd
        obtain ⟨p1, p2, p3, p4⟩ := b1
        obtain ⟨q1, q2, q3, q4⟩ := p4 hd
        obtain ⟨z1, z2, z3, z4⟩ := ff4_0 (why_0 q1).1
        refine ok_b (x2_planAnew c2 f1 p1 z1 z3 f2.2.2.1) ?_
        rintro _ H1 ⟨⟨hC1, hT1, ⟨p, hp1, hp2⟩, hl1, h441, ht1⟩, hR1⟩
        refine ok_s ?_
        have hRR1 : RR nr H1 := RR_c hRR hR1 rfl rfl
        have hRR1' : RR nr (sI H1 0 0 34 0) := RR_sI hRR1 (by omega) (by omega)
        have b3' : MR r (ρ r) H1 := MR_eq b3 (fun k i => (hC1.c0 rfl k i).1) (fun k i => (hC1.c0 rfl k i).2)
        have hM1 : MK w H1 := MK_eq hM (fun k i => (hC1.c0 rfl k i).1) (fun k i => (hC1.c0 rfl k i).2)
        have n3 := (MR_34 b3' 0).2.1
        rw [hd] at n3
        unfold f_X9_plan
        simp only [hl]
        rw [dn_yes hRR1' hrn, bnd_s, n3]
        simp only [l0, b_eq0, Bool.true_eq_false, if_false]
        rw [if_neg (by decide)]
        have hC00 : Cr r LPL H1 (sI H1 0 0 34 (nI 0)) := Cr.sI rfl trivial (Cr.rf H1)
        have mk := MR_34 b3' (nI 0)
        refine x9_plan_17 (ρ := ρ) hK (MK_34 hM1 0) (by omega) h8 (fun z => by rw [hf] at z; cases z) (fun _ => ?_)
        obtain ⟨m1, m2, m3', m4⟩ := mk
        obtain ⟨g1, g2, g3, g4⟩ := m4 hd
        refine ok_b (x9_makePlan m1 p1 (by omega) z1 g1.2.2.1) ?_
        rintro _ H2 ⟨hC2, ⟨p', hp1', hp2'⟩, h02⟩
        have hC2' : Cr r LPL H1 H2 := Cr.tr rfl hC00 hC2
        obtain ⟨t1, t2⟩ := M0_tb h02
        have mfin : MR r (finR (ρ r) p') H2 := by
          refine ⟨MG_ch m1 hC2.1 rfl, ?_, fun e he => ?_, fun _ => ⟨MW_ch g1 hC2.1 rfl, hp2', t1, t2⟩⟩
          · rw [hC2.1.gi _ _ _ rfl]; exact m2.trans (by rw [hd]; rfl)
          · rw [hC2.1.gi _ _ _ rfl]; exact m3' e he
        have cfin : CR r (finR (ρ r) p) H1 := by
          refine ⟨?_, CG_ch c2 hC1 rfl, ?_, fun e he => ?_, fun _ => ⟨CL_ch f1 hC1 rfl, CW_ch f2 hC1 rfl, hT1, hp2, hl1, by rw [h441]; exact (sumJ_0 _).symm, ht1⟩⟩
          · rw [hC1.gi _ _ _ rfl]; exact c1
          · rw [hC1.gi _ _ _ rfl]; exact c3.trans (by rw [hd]; rfl)
          · rw [hC1.gi _ _ _ rfl]; exact c4 e he
        simp (disch := omega) only [gd_nI, nI_clamp]
        refine ok_s ⟨?_, Rel_up (a := finR (ρ r) p) hRR hr (PK_up hK (fun _ => ⟨rfl, rfl, rfl⟩)) hC hM hR1 rfl rfl hC2'.1 rfl rfl hC2'.2 (PR_fin ⟨p1, p2, p3, p4⟩ q1 hp1) cfin (MR_p mfin (fun b hb => pot_un hp1' hp1 b hb))⟩
        rw [hp2'.2.2.1, hT1.2.1]
  · rw [fin_no hRR ha, bnd_s, nz_n]
    refine ok_s ?_
    unfold f_X9_plan
    simp only [hl, dn_no hRR' ha, bnd_s, if_true]
    exact ok_s ⟨rfl, Rel_34 h 0⟩
