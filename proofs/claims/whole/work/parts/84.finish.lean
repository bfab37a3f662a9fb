theorem ff4_le (G : Gr) : ff4 G ≤ 4 := by
  unfold ff4
  repeat' split
  all_goals omega
theorem ff6_le (G : Gr) : ff6 G ≤ 6 := by
  unfold ff6
  repeat' split
  all_goals omega
theorem why_le (G : Gr) : why G ≤ 6 := by
  unfold why
  split
  · exact ff6_le G
  · have := ff4_le G; omega
theorem ff4_0 {G : Gr} (h : ff4 G = 0) : 0 < qB G ∧ allB (oG G) (qB G) = true ∧ allB (spi (qF G) (qT G) (qE G) rM (qB G)) (qB G) = true ∧ allB (spi (qT G) (qF G) (qE G) (eM G) (qB G)) (qB G) = true := by
  unfold ff4 at h
  by_cases h1 : qB G = 0
  · rw [if_pos h1] at h; cases h
  · rw [if_neg h1] at h
    by_cases h2 : allB (oG G) (qB G) = false
    · rw [if_pos h2] at h; cases h
    · rw [if_neg h2] at h
      by_cases h3 : allB (spi (qF G) (qT G) (qE G) rM (qB G)) (qB G) = false
      · rw [if_pos h3] at h; cases h
      · rw [if_neg h3] at h
        by_cases h4 : allB (spi (qT G) (qF G) (qE G) (eM G) (qB G)) (qB G) = false
        · rw [if_pos h4] at h; cases h
        · exact ⟨by omega, bt_of h2, bt_of h3, bt_of h4⟩
theorem why_0 {G : Gr} (h : why G = 0) : ff4 G = 0 ∧ nzB G = true ∧ tot G ≤ 1000000000000 := by
  unfold why at h
  by_cases h4 : ff4 G = 0
  · rw [if_pos h4] at h
    unfold ff6 at h
    by_cases h5 : nzB G = false
    · rw [if_pos h5] at h; cases h
    · rw [if_neg h5] at h
      by_cases h6 : 1000000000000 < tot G
      · rw [if_pos h6] at h; cases h
      · exact ⟨h4, bt_of h5, by omega⟩
  · rw [if_neg h4] at h; exact absurd h h4
theorem CW_ch {rs : Nat → Bool} {L : List (Nat × Nat × Option Nat)} {H H' : Hp} {r : Nat} {G : Gr} (h : CW r G H) (q : Ch rs L H H') (hL : nol L 2 [(18, none), (19, none), (21, none), (2, some 10)] = true) : CW r G H' := by
  obtain ⟨h1, h2, h3, h4⟩ := h
  refine ⟨fun b hb => ?_, fun b hb => ?_, fun e he => ?_, ?_⟩
  · rw [(q.c hL (k := 18) (o := none) (by simp) rfl).2]; exact h1 b hb
  · rw [(q.c hL (k := 19) (o := none) (by simp) rfl).2]; exact h2 b hb
  · rw [(q.c hL (k := 21) (o := none) (by simp) rfl).2]; exact h3 e he
  · rw [(q.c hL (k := 2) (o := some 10) (by simp) rfl).2]; exact h4
def finR (a : Rt) (p : Nat → Int64) : Rt := (rG a, true, qG (rG a), p, lg0, tb0, rbl a)
theorem x2_settle {r : Nat} {a : Rt} {H : Hp} (hP : PR a) (hC : CR r a H) : ok (f_X2_settle r H) (fun v H' => if rD a = true then v = nI 0 ∧ H' = H else v = nI (why (rG a)) ∧ if why (rG a) = 0 then ∃ p, Pot (rG a) p ∧ CR r (finR a p) H' else CR r a H') := by
  obtain ⟨c1, c2, c3, c4, c5⟩ := hC
  have w := hP.1
  unfold f_X2_settle
  simp only [c3, l0, b_eq0]
  cases hd : rD a with
  | true =>
    rw [if_neg (by decide)]
    refine ok_s ?_
    rw [if_pos rfl]
    exact ⟨rfl, rfl⟩
  | false =>
    rw [if_pos rfl]
    simp only [Bool.false_eq_true, if_false]
    have keep : ∀ {L : List (Nat × Nat × Option Nat)} {H' : Hp}, Ch TT L H H' → nol L 2 (fpCG ++ [(0, none), (6, none)]) = true → CR r a H' := by
      intro L H' q hL
      refine ⟨?_, CG_ch c2 q (nol_sub hL (fun x hx => by simp [hx])), ?_, fun e he => ?_, fun z => by rw [hd] at z; cases z⟩
      · rw [(q.c hL (k := 0) (o := none) (by simp) rfl).1]; exact c1
      · rw [(q.c hL (k := 0) (o := none) (by simp) rfl).1]; exact c3
      · rw [(q.c hL (k := 6) (o := none) (by simp) rfl).1]; exact c4 e he
    refine ok_b (x3_firstFault c2 w) ?_
    rintro v H1 ⟨hC1, rfl⟩
    have l4 := ff4_le (rG a)
    simp (disch := omega) only [jn, nI_inj]
    by_cases h4 : ff4 (rG a) = 0
    · obtain ⟨b0, b2, b3, b4⟩ := ff4_0 h4
      rw [if_pos h4]
      have hG1 := CG_ch c2 hC1 rfl
      refine ok_b (x7_firstFault hG1 w b0) ?_
      rintro v H2 ⟨rfl, hC2, hW2⟩
      have l6 := ff6_le (rG a)
      have hwh : why (rG a) = ff6 (rG a) := by unfold why; rw [if_pos h4]
      have hG2 := CG_ch hG1 hC2 rfl
      have hC12 : Ch TT [(2, 17, none), (2, 2, some 10), (2, 18, none), (2, 19, none), (2, 21, none)] H H2 := Ch.tr (fun _ q => q) rfl (Ch.tr (fun _ q => q) rfl (Ch.rf H) hC1) hC2
      simp (disch := omega) only [nI_inj]
      rw [hwh]
      by_cases h6 : ff6 (rG a) = 0
      · rw [if_pos h6]
        have hnz : nzB (rG a) = true := (why_0 (hwh.trans h6)).2.1
        have hCW := hW2 hnz
        refine ok_b (x3_linkEnd hG2 w) ?_
        rintro _ H3 ⟨hC3, hG3, hL3⟩
        simp only [hl]
        have hC4 : Ch TT [(2, 0, some 8)] H3 (sI H3 (r + 2) 0 8 1) := Ch.sI rfl rfl (Ch.rf _)
        have hG4 := CG_ch hG3 hC4 rfl
        have hL4 := CL_ch hL3 hC4 rfl
        have hW4 := CW_ch (CW_ch hCW hC3 rfl) hC4 rfl
        refine ok_b (x2_planAnew hG4 hL4 w b0 b3 hW4.2.2.1) ?_
        rintro _ H5 ⟨⟨hC5, hT5, ⟨p, hp1, hp2⟩, hl5, h445, ht5⟩, -⟩
        have hC45 : Ch TT [(2, 0, some 8), (2, 1, some 12), (2, 2, some 10), (2, 3, some 9), (2, 3, some 10), (2, 3, some 11), (2, 4, some 3), (2, 4, some 4), (2, 5, some 2), (2, 5, some 3), (2, 13, none), (2, 14, none), (2, 17, none), (2, 18, none), (2, 19, none), (2, 20, none), (2, 21, none), (2, 22, none), (2, 23, none), (2, 26, none), (2, 27, none), (2, 28, none), (2, 29, none), (2, 30, none), (2, 31, none), (2, 34, none), (2, 35, none), (2, 36, none)] H H5 := Ch.tr (fun _ q => q) rfl (Ch.tr (fun _ q => q) rfl (Ch.tr (fun _ q => q) rfl (Ch.tr (fun _ q => q) rfl (Ch.rf H) hC12) hC3) hC4) hC5
        refine ok_s ⟨by rw [h6], ?_⟩
        rw [if_pos h6]
        refine ⟨p, hp1, ?_, CG_ch hG4 hC5 rfl, ?_, fun e he => ?_, fun _ => ⟨CL_ch hL4 hC5 rfl, CW_ch hW4 hC5 rfl, hT5, hp2, hl5, ?_, ht5⟩⟩
        · rw [hC45.gi _ _ _ rfl]; exact c1
        · rw [hC5.gi _ _ _ rfl, gI_eq]; rfl
        · rw [hC45.gi _ _ _ rfl]; exact c4 e he
        · rw [h445]; exact (sumJ_0 _).symm
      · rw [if_neg h6]
        refine ok_s ⟨rfl, ?_⟩
        rw [if_neg h6]
        exact keep hC12 rfl
    · rw [if_neg h4, if_neg h4]
      have hwh : why (rG a) = ff4 (rG a) := by unfold why; rw [if_neg h4]
      refine ok_s ⟨by rw [hwh], ?_⟩
      rw [hwh, if_neg h4]
      exact keep hC1 rfl
theorem MW_ch {rs : Nat → Bool} {L : List (Nat × Nat × Option Nat)} {H H' : Hp} {r : Nat} {G : Gr} (h : MW r G H) (q : Ch rs L H H') (hL : nol L 0 [(14, none), (15, none), (16, none), (17, none)] = true) : MW r G H' := by
  obtain ⟨h1, h2, h3, h4⟩ := h
  refine ⟨fun b hb => ?_, fun b hb => ?_, fun e he => ?_, ?_⟩
  · rw [(q.m hL (k := 15) (o := none) (by simp) rfl).2]; exact h1 b hb
  · rw [(q.m hL (k := 16) (o := none) (by simp) rfl).2]; exact h2 b hb
  · rw [(q.m hL (k := 17) (o := none) (by simp) rfl).2]; exact h3 e he
  · rw [(q.m hL (k := 14) (o := none) (by simp) rfl).2]; exact h4
abbrev LFI : List (Nat × Nat × Option Nat) := [(0, 0, some 34), (0, 3, none), (0, 11, none), (0, 12, none), (0, 13, none), (0, 14, none), (0, 15, none), (0, 16, none), (0, 17, none), (0, 18, none), (0, 19, none), (0, 20, none), (0, 21, none), (0, 22, none), (0, 23, none), (0, 24, none), (0, 35, none), (0, 36, none), (0, 37, none), (0, 38, none)]
theorem M0_tb {r : Nat} {H : Hp} (h : M0 r H) : MLg r lg0 H ∧ MTb r tb0 H := ⟨⟨h.1, h.2.1, h.2.2.1⟩, h.2.2.2.2, fun k hk => absurd hk (Nat.not_lt_zero _), h.2.2.2.1⟩
theorem x9_finish {nr r : Nat} {a : Rt} {H : Hp} (hRR : RR nr H) (hr : r < nr) (hP : PR a) (hM : MR r a H) : ok (f_X9_finish (nI r) H) (fun v H' => Cr r LFI H H' ∧ if rD a = true then v = nI 0 ∧ MR r a H' else v = nI (why (rG a)) ∧ if why (rG a) = 0 then ∃ p, Pot (rG a) p ∧ MR r (finR a p) H' else MR r a H') := by
  have h8 := hRR.1
  have w := hP.1
  have hC00 : Cr r [(0, 0, some 34)] H (sI H 0 0 34 0) := Cr.sI rfl trivial (Cr.rf H)
  have hRR' : RR nr (sI H 0 0 34 0) := RR_sI hRR (by omega) (by omega)
  unfold f_X9_finish
  simp only [hl]
  generalize sI H 0 0 34 0 = H0 at hC00 hRR' ⊢
  have hC0 : Cr r LFI H H0 := Cr.tr rfl (Cr.rf H) hC00
  obtain ⟨m1, m2, m3, m4⟩ := hM
  have m1' := MG_ch m1 hC0.1 rfl
  have m2' : gI H0 0 3 r = bI (rD a) := by rw [hC00.1.gi _ _ _ rfl]; exact m2
  simp (disch := omega) only [ir_yes hRR' hr, bnd_s]
  rw [if_neg (by decide)]
  simp (disch := omega) only [gd_nI, nI_clamp, m2', l0, b_eq0]
  cases hd : rD a with
  | true =>
    rw [if_neg (by decide)]
    simp only [if_true]
    refine ok_s ⟨hC0, rfl, ⟨m1', m2'.trans (by rw [hd]), fun e he => ?_, fun z => MF_ch (m4 z) hC00.1 rfl⟩⟩
    rw [hC00.1.gi _ _ _ rfl]; exact m3 e he
  | false =>
    rw [if_pos rfl]
    simp only [Bool.false_eq_true, if_false]
    refine ok_b (x9_why m1' w (by omega)) ?_
    rintro v H1 ⟨rfl, hC1, hW1⟩
    have lw := why_le (rG a)
    have hC1' : Cr r LFI H H1 := Cr.tr rfl hC0 hC1
    simp (disch := omega) only [nI_le_iff]
    by_cases h6 : why (rG a) = 0
    · rw [if_pos (by omega)]
      obtain ⟨b0, -⟩ := ff4_0 (why_0 h6).1
      have hW := hW1 h6
      have hC2 : Cr r LFI H1 (sI H1 0 3 r (vp_nar .boolean 1)) := Cr.sI rfl rfl (Cr.rf _)
      have hC2' := Cr.tr rfl hC1' hC2
      refine ok_b (x9_makePlan (MG_ch m1 hC2'.1 rfl) w (by omega) b0 (fun e he => by rw [gJ_sI]; exact hW.2.2.1 e he)) ?_
      rintro _ H3 ⟨hC3, ⟨p, hp1, hp2⟩, h03⟩
      have hC3' : Cr r LFI H H3 := Cr.tr rfl hC2' hC3
      obtain ⟨t1, t2⟩ := M0_tb h03
      refine ok_s ⟨hC3', by rw [h6], ?_⟩
      rw [if_pos h6]
      refine ⟨p, hp1, MG_ch m1 hC3'.1 rfl, ?_, fun e he => ?_, fun _ => ⟨MW_ch (L := LMP) ⟨fun b hb => by rw [gJ_sI]; exact hW.1 b hb, fun b hb => by rw [gJ_sI]; exact hW.2.1 b hb, fun e he => by rw [gJ_sI]; exact hW.2.2.1 e he, by rw [gJ_sI]; exact hW.2.2.2⟩ hC3.1 rfl, hp2, t1, t2⟩⟩
      · rw [hC3.1.gi _ _ _ rfl, gI_eq]; rfl
      · rw [hC3'.1.gi _ _ _ rfl]; exact m3 e he
    · rw [if_neg (by omega)]
      refine ok_s ⟨hC1', rfl, ?_⟩
      rw [if_neg h6]
      refine ⟨MG_ch m1 hC1'.1 rfl, ?_, fun e he => ?_, fun z => by rw [hd] at z; cases z⟩
      · rw [hC1.1.gi _ _ _ rfl]; exact m2'.trans (by rw [hd])
      · rw [hC1'.1.gi _ _ _ rfl]; exact m3 e he
theorem MR_p {r : Nat} {a : Rt} {p p' : Nat → Int64} {H : Hp} (h : MR r (finR a p) H) (hp : ∀ b, b < qB (rG a) → p b = p' b) : MR r (finR a p') H := by
  obtain ⟨h1, h2, h3, h4⟩ := h
  refine ⟨h1, h2, h3, fun z => ?_⟩
  obtain ⟨f1, ⟨g1, g2, g3, g4⟩, f3, f4⟩ := h4 z
  exact ⟨f1, ⟨g1, g2, g3, fun b hb => by rw [g4 b hb]; exact hp b hb⟩, f3, f4⟩
theorem PR_fin {a : Rt} {p : Nat → Int64} (h : PR a) (hw : why (rG a) = 0) (hp : Pot (rG a) p) : PR (finR a p) := ⟨h.1, h.2.1, h.2.2.1, fun _ => ⟨hw, fun e he => (h.1.2.2.2.1 e he).2.2, hp, Nat.zero_le _⟩⟩
theorem eq_finish {nr : Nat} {H : Hp} (h : Rel nr H) (a : Int32) : ok (f_X8_finish nr a H) (fun x H1 => ok (f_X9_finish a H1) (fun y H2 => y = x ∧ Rel nr H2)) := by
  obtain ⟨hRR, ρ, w, hr, hK, hC, hM⟩ := id h
  have h8 := hRR.1
  unfold f_X8_finish
  rcases arg_cases a (n := nr) (by omega) with ⟨r, hrn, rfl⟩ | ha
  · obtain ⟨b1, b2, b3⟩ := hr r hrn
    rw [rt_yes hRR hrn, bnd_s, nz_s hrn]
    refine ok_b (ok_and (x2_settle b1 b2) (fun x H' e => ch_X2_settle (Ch.rf H) e)) ?_
    rintro v H1 ⟨hv, q1⟩
    refine ok_s ?_
    have hRR1 : RR nr H1 := RR_c hRR q1 rfl rfl
    have b3' : MR r (ρ r) H1 := MR_eq b3 (fun k i => (q1.c0 rfl k i).1) (fun k i => (q1.c0 rfl k i).2)
    refine ok_m (x9_finish hRR1 hrn b1 b3') ?_
    rintro y H2 ⟨hCr, hy⟩
    have done : ∀ a', PR a' → CR r a' H1 → MR r a' H2 → PK nr (upR ρ r a') w → Rel nr H2 := fun a' p1 p2 p3 p4 => Rel_up hRR hr p4 hC hM q1 rfl rfl hCr.1 rfl rfl hCr.2 p1 p2 p3
    cases hd : rD (ρ r) with
    | true =>
      rw [hd, if_pos rfl] at hv hy
      obtain ⟨rfl, rfl⟩ := hv
      refine ⟨hy.1, done (ρ r) b1 b2 hy.2 (by rw [upR_self]; exact hK)⟩
    | false =>
      rw [hd] at hv hy
      simp only [Bool.false_eq_true, if_false] at hv hy
      refine ⟨hy.1.trans hv.1.symm, ?_⟩
      by_cases h6 : why (rG (ρ r)) = 0
      · rw [if_pos h6] at hv hy
        obtain ⟨p, hp1, hp2⟩ := hv.2
        obtain ⟨p', hp1', hp2'⟩ := hy.2
        refine done (finR (ρ r) p) (PR_fin b1 h6 hp1) hp2 (MR_p hp2' (fun b hb => (pot_un hp1' hp1 b hb))) (PK_up hK (fun z => by rw [hd] at z; cases z))
      · rw [if_neg h6] at hv hy
        exact done (ρ r) b1 hv.2 hy.2 (by rw [upR_self]; exact hK)
  · rw [rt_no hRR ha, bnd_s, nz_n]
    refine ok_s ?_
    have hRR' : RR nr (sI H 0 0 34 0) := RR_sI hRR (by omega) (by omega)
    unfold f_X9_finish
    simp only [hl, ir_no hRR' ha, bnd_s, if_true]
    refine ok_s ⟨rfl, Rel_q (L1 := []) (L2 := [(0, 0, some 34)]) h (Ch.rf H) rfl rfl rfl (Ch.sI rfl rfl (Ch.rf H)) rfl rfl⟩
