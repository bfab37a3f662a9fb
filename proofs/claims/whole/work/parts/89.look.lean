theorem eq_table1 {nr : Nat} {H : Hp} (h : RR nr H) (hf : ∀ r, r < nr → gI H (r + 2) 0 8 = gI H 0 3 r) (ht : ∀ r, r < nr → ¬ gI H 0 3 r = 0 → TB r H) (a b c : Int32) : ∃ v, f_X8_table nr a b c H = some (v, H) ∧ f_X9_table a b c H = some (v, sI H 0 0 34 0) := by
  have h8 := h.1
  have h' : RR nr (sI H 0 0 34 0) := RR_sI h (by omega) (by omega)
  unfold f_X8_table f_X9_table
  simp only [hl]
  rcases arg_cases a (n := nr) (by omega) with ⟨r, hr, rfl⟩ | ha
  · rw [fin_yes h hr, bnd_s, dn_yes h' hr, bnd_s]
    have e3 : gI (sI H 0 0 34 0) 0 3 r = gI H 0 3 r := by rw [gI_sI, if_neg (by omega)]
    rw [e3, hf r hr]
    by_cases hz : gI H 0 3 r = 0
    · rw [if_pos hz, if_pos hz, nz_n, if_pos rfl]
      exact ⟨_, rfl, rfl⟩
    · rw [if_neg hz, if_neg hz, nz_s hr, if_neg (by decide)]
      obtain ⟨R, hR, h1, h2, h3, -⟩ := ht r hr hz
      have e24 : gI (sI H 0 0 34 0) 0 24 r = nI R := by rw [gI_sI, if_neg (by omega)]; exact h2
      unfold f_X4_inRow
      rw [h1]
      rcases arg_cases b (n := R) (by omega) with ⟨k, hk, rfl⟩ | hb
      · have h16 : (16 : Int32) * nI r = nI (16 * r) := nImul 16 r
        rw [if_neg (nI_pos (by omega)), if_neg (by rw [nI_le_iff (by omega) (by omega)]; omega), if_neg (nI_pos (by omega)), gd_nI (a := r) (by omega) (by decide), nI_clamp (n := r) (by omega), e24, if_pos (nI_lt hk (by omega)), h16, nIadd]
        rcases arg_cases c (n := 2) (by decide) with ⟨j, hj, rfl⟩ | hc
        · rcases (show j = 0 ∨ j = 1 by omega) with rfl | rfl
          · simp only [if_neg (show ¬ (nI 0 < 0) by decide), if_pos (show nI 0 ≤ 1 by decide), if_pos (show nI 0 = 0 from rfl)]
            rw [gd_nI (a := k) (by omega) (by decide), gd_nI (a := 16 * r + k) (by omega) (by decide), nI_clamp (n := k) (by omega), nI_clamp (n := 16 * r + k) (by omega), bnd_s, (h3 k hk).1]
            exact ⟨_, rfl, rfl⟩
          · simp only [if_neg (show ¬ (nI 1 < 0) by decide), if_pos (show nI 1 ≤ 1 by decide), if_neg (show ¬ (nI 1 = 0) by decide), if_pos (show nI 1 = 1 from rfl)]
            rw [gd_nI (a := k) (by omega) (by decide), gd_nI (a := 16 * r + k) (by omega) (by decide), nI_clamp (n := k) (by omega), nI_clamp (n := 16 * r + k) (by omega), bnd_s, (h3 k hk).2]
            exact ⟨_, rfl, rfl⟩
        · have n0 : ¬ c = 0 := fun q => hc (by rw [q]; decide)
          have n1 : ¬ c = 1 := fun q => hc (by rw [q]; decide)
          simp only [if_neg n0, if_neg n1]
          by_cases c0 : c < 0
          · rw [if_pos c0, bnd_s]
            exact ⟨_, rfl, rfl⟩
          · rw [if_neg c0, if_neg ?_, bnd_s]
            · exact ⟨_, rfl, rfl⟩
            · intro q
              apply hc
              refine ⟨Int32.not_lt.mp c0, ?_⟩
              have q1 := Int32.le_iff_toInt_le.mp q
              rw [Int32.lt_iff_toInt_lt]
              have z1 : (1 : Int32).toInt = 1 := by decide
              have z2 : (nI 2).toInt = 2 := by decide
              omega
      · by_cases b0 : b < 0
        · rw [if_pos b0, if_pos b0, bnd_s]
          exact ⟨_, rfl, rfl⟩
        · rw [if_neg b0, if_neg b0, gd_nI (by omega) (by decide), nI_clamp (by omega), e24]
          have hle : nI R ≤ b := by
            rcases Int32.le_total (nI R) b with q | q
            · exact q
            · by_cases hq : b < nI R
              · exact absurd ⟨Int32.not_lt.mp b0, hq⟩ hb
              · exact Int32.not_lt.mp hq
          rw [if_pos hle, if_neg (Int32.not_lt.mpr hle), bnd_s]
          exact ⟨_, rfl, rfl⟩
  · rw [fin_no h ha, bnd_s, nz_n, dn_no h' ha, bnd_s, if_pos rfl]
    exact ⟨_, rfl, rfl⟩
theorem b_ne0 {b : Bool} (h : ¬ bI b = 0) : b = true := by
  cases b with
  | true => rfl
  | false => exact absurd rfl h
theorem eq_table' {nr : Nat} {H : Hp} (h : Rel nr H) (a b c : Int32) : ok (f_X8_table nr a b c H) (fun x H1 => ok (f_X9_table a b c H1) (fun y H2 => y = x ∧ Rel nr H2)) := by
  obtain ⟨hRR, ρ, w, hr, hK, hC, hM⟩ := id h
  obtain ⟨v, e1, e2⟩ := eq_table1 hRR (fun r hr' => (hr r hr').2.1.2.2.1.trans (hr r hr').2.2.2.1.symm) (fun r hr' hz => by
    obtain ⟨p, c, m⟩ := hr r hr'
    have hd : rD (ρ r) = true := b_ne0 (by rw [← m.2.1]; exact hz)
    obtain ⟨t1, t2, t3⟩ := (c.2.2.2.2 hd).2.2.2.2.2.2
    obtain ⟨u1, u2, u3⟩ := (m.2.2.2 hd).2.2.2
    exact ⟨(rtb (ρ r)).1, (p.2.2.2 hd).2.2.2, t1, u1, fun k hk => ⟨(t2 k hk).1.trans (u2 k hk).1.symm, (t2 k hk).2.trans (u2 k hk).2.symm⟩, t3.trans u3.symm⟩) a b c
  rw [e1]
  refine ok_s ?_
  rw [e2]
  exact ok_s ⟨rfl, Rel_no h⟩
/-- look, ofEdge, ofBlock on both sides -/
theorem Rel_out {nr : Nat} {H : Hp} (h : Rel nr H) (v : Int64) : Rel nr (sJ H 1 11 0 v) := Rel_q (L1 := [(1, 11, none)]) (L2 := []) h (Ch.sJ rfl rfl (Ch.rf H)) rfl rfl rfl (Ch.rf _) rfl rfl
theorem x9_look_184 {r : Nat} {G : Gr} {l : Lg} {H : Hp} {k : Int64 → Hp → Option (Int64 × Hp)} {Q : Int64 → Hp → Prop} (h : MG r G H) (w : WG G) (hr : r < 8) (hl : MLg r l H) (K : ok (k (sumJ l.2.2.1 (qB G)) H) Q) : ok (L_X9_look_184 (nI r) k FU 0 (nI (20 * r)) H) Q := by
  have hB := w.1
  refine ok_f2 (20 * r) (qB G) (fun i x H' => H' = H ∧ x = sumJ l.2.2.1 i) ?_ ?_ rfl ⟨rfl, rfl⟩ (FUgt (by omega))
  · rintro i n x H1 hi ⟨rfl, rfl⟩ K1
    rw [L_X9_look_184]
    simp (disch := omega) only [gd_nI, nI_clamp, h.1, l20, nImul, nIadd, nI_le_iff, if_neg, vl, l1, hl.2.1]
    exact K1 _ _ ⟨rfl, rfl⟩
  · rintro n x H1 ⟨rfl, rfl⟩
    rw [L_X9_look_184]
    simp (disch := omega) only [gd_nI, nI_clamp, h.1, l20, nImul, nIadd, nI_le_iff, if_pos]
    exact K
def Look3 (nr : Nat) (f8 : Option (Int64 × Hp)) (t8 : Option (Nat × Hp)) (f9 : Hp → Option (Int64 × Hp)) (H : Hp) : Prop := (∃ v, f8 = some (v, H) ∧ ok (f9 (sJ H 1 11 0 v)) (fun y H2 => y = v ∧ gI H2 0 0 34 = nI 0 ∧ gJ H2 1 11 0 = v ∧ Rel nr H2)) ∨ (∃ k, (k = 1 ∨ k = 2) ∧ t8 = some (k, H) ∧ ok (f9 H) (fun _ H2 => gI H2 0 0 34 = nI k ∧ Rel nr H2))
theorem MR_out {r : Nat} {a : Rt} {H : Hp} (h : MR r a H) (v : Int64) : MR r a (sJ H 1 11 0 v) := MR_eq h (fun k i => gI_sJ _ _ _ _ _ _ _ _) (fun k i => gJ_ne (by omega))
theorem look_yes {nr : Nat} {H : Hp} {f8 : Option (Int64 × Hp)} {t8 : Option (Nat × Hp)} {f9 : Hp → Option (Int64 × Hp)} (h : Rel nr H) (v : Int64) (h8 : f8 = some (v, H)) (h9 : f9 (sJ H 1 11 0 v) = some (v, sI (sJ H 1 11 0 v) 0 0 34 0)) : Look3 nr f8 t8 f9 H := by
  refine Or.inl ⟨v, h8, ?_⟩
  rw [h9]
  exact ok_s ⟨rfl, gI_eq _ _ _ _ _, by rw [gJ_sI, gJ_eq], Rel_no (Rel_out h v)⟩
theorem look_no {nr k : Nat} {H : Hp} {f8 : Option (Int64 × Hp)} {t8 : Option (Nat × Hp)} {f9 : Hp → Option (Int64 × Hp)} (h : Rel nr H) (hk : k = 1 ∨ k = 2) (h8 : t8 = some (k, H)) (h9 : f9 H = some (0, sI (sI H 0 0 34 0) 0 0 34 (nI k))) : Look3 nr f8 t8 f9 H := by
  refine Or.inr ⟨k, hk, h8, ?_⟩
  rw [h9]
  exact ok_s ⟨gI_eq _ _ _ _ _, Rel_34 (Rel_no h) _⟩
theorem num10 {j : Nat} (h : j < 10) : j = 0 ∨ j = 1 ∨ j = 2 ∨ j = 3 ∨ j = 4 ∨ j = 5 ∨ j = 6 ∨ j = 7 ∨ j = 8 ∨ j = 9 := by omega
theorem c9 {c : Int32} : c ≤ 9 ↔ c < 10 := by
  rw [Int32.le_iff_toInt_le, Int32.lt_iff_toInt_lt]
  have z1 : (9 : Int32).toInt = 9 := by decide
  have z2 : (10 : Int32).toInt = 10 := by decide
  omega
theorem c8' {c : Int32} : c ≤ 8 ↔ c < 9 := by
  rw [Int32.le_iff_toInt_le, Int32.lt_iff_toInt_lt]
  have z1 : (8 : Int32).toInt = 8 := by decide
  have z2 : (9 : Int32).toInt = 9 := by decide
  omega
noncomputable def lookV (a : Rt) (j : Nat) : Int64 := if j = 0 then lN (qB (rG a)) else if j = 1 then lN (qE (rG a)) else if j = 2 then (if rD a = true then 1 else 0) else if rD a = false then 0 else if j = 3 then lN (cnN (rGp a)) else if j = 4 then lN (gsN (rGp a)) else if j = 5 then lN (tot (rG a)) else if j = 6 then (rlg a).2.2.2 else if j = 7 then (rtb a).2.2.2 else if j = 8 then lN (rtb a).1 else sumJ (rlg a).2.2.1 (qB (rG a))
theorem cnN_le {G : Gr} (w : WG G) : cnN G ≤ 40 := by
  have : cnN G ≤ cntP (fun _ => true) (qE G) * 1 := by
    apply sumF_bd
    · intro i _ q; cases q
    · intro i _; split <;> omega
  have h2 := cntP_le (fun _ => true) (qE G)
  have := w.2.1
  omega
theorem x8_lookV {r j : Nat} {a : Rt} {H : Hp} (hP : PR a) (hC : CR r a H) (hj : j < 10) : f_X2_ofItself r (nI j) H = some (lookV a j, H) := by
  have w := hP.1
  have hB := w.1
  have hE := w.2.1
  obtain ⟨c1, c2, c3, c4, c5⟩ := hC
  unfold f_X2_ofItself lookV
  simp only [jn]
  cases hd : rD a with
  | false =>
    rw [hd] at c3
    rcases num10 hj with rfl | rfl | rfl | rfl | rfl | rfl | rfl | rfl | rfl | rfl <;> simp (disch := omega) only [l0, l1, l2, l3, l4, l5, l6, l7, l8, nI_le_iff, nI_inj, if_pos, if_neg, c2.1, c2.2.1, c3, b_eq0, nI_l, if_true, Bool.false_eq_true, if_false]
  | true =>
    rw [hd] at c3
    obtain ⟨f1, f2, f3, f4, f5, f6, f7⟩ := c5 hd
    obtain ⟨p1, p2, p3, p4⟩ := hP.2.2.2 hd
    have h40 : cnN (rGp a) ≤ 40 := cnN_le (WG_sg w p2)
    have t1 := f3.2.1
    have t2 := f3.2.2.1
    have t3 := f2.2.2.2
    have t4 := f5.2.2
    have t5 := f7.2.2
    have t6 := f7.1
    rcases num10 hj with rfl | rfl | rfl | rfl | rfl | rfl | rfl | rfl | rfl | rfl <;> simp (disch := omega) only [l0, l1, l2, l3, l4, l5, l6, l7, l8, nI_le_iff, nI_inj, if_pos, if_neg, c2.1, c2.2.1, c3, b_eq0, nI_l, if_true, Bool.true_eq_false, if_false, t1, t2, t3, t4, t5, t6, f6]
theorem x9_lookV {nr r j : Nat} {a : Rt} {H : Hp} (hRR : RR nr H) (hr : r < nr) (hP : PR a) (hM : MR r a H) (hj : j < 10) : f_X9_look (nI r) (nI j) H = some (lookV a j, sI H 0 0 34 0) := by
  have h8 := hRR.1
  have w := hP.1
  have hB := w.1
  have hE := w.2.1
  have hRR' : RR nr (sI H 0 0 34 0) := RR_sI hRR (by omega) (by omega)
  obtain ⟨m1, m2, m3, m4⟩ := MR_34 hM 0
  unfold f_X9_look lookV
  rw [hl_e]
  generalize sI H 0 0 34 0 = H0 at hRR' m1 m2 m4 ⊢
  rw [ir_yes hRR' hr, bnd_s, if_neg (by decide), if_neg (nI_pos (by omega)), if_pos (by show nI j ≤ nI 9; rw [nI_le_iff (by omega) (by omega)]; omega)]
  cases hd : rD a with
  | false =>
    rw [hd] at m2
    rcases num10 hj with rfl | rfl | rfl | rfl | rfl | rfl | rfl | rfl | rfl | rfl <;> simp (disch := omega) only [l0, l1, l2, l3, l4, l5, l6, l7, l8, nI_inj, if_pos, if_neg, gd_nI, nI_clamp, m1.1, m1.2.1, m2, b_eq0, nI_l, if_true, Bool.false_eq_true, if_false]
  | true =>
    rw [hd] at m2
    obtain ⟨f1, f2, f3, f4⟩ := m4 hd
    obtain ⟨p1, p2, p3, p4⟩ := hP.2.2.2 hd
    have h40 : cnN (rGp a) ≤ 40 := cnN_le (WG_sg w p2)
    have t1 := f2.2.1
    have t2 := f2.2.2.1
    have t3 := f1.2.2.2
    have t4 := f3.2.2
    have t5 := f4.2.2
    have t6 := f4.1
    rcases num10 hj with rfl | rfl | rfl | rfl | rfl | rfl | rfl | rfl | rfl | rfl
    case inr.inr.inr.inr.inr.inr.inr.inr.inr =>
      simp (disch := omega) only [l0, l1, l2, l3, l4, l5, l6, l7, l8, l20, nImul, nI_inj, if_pos, if_neg, gd_nI, nI_clamp, m1.1, m1.2.1, m2, b_eq0, nI_l, Bool.true_eq_false, if_false, vl]
      have hs : ok (L_X9_look_184 (nI r) (fun z23 H24 => some (z23, H24)) FU 0 (nI (20 * r)) H0) (fun v H' => v = sumJ (rlg a).2.2.1 (qB (rG a)) ∧ H' = H0) := x9_look_184 m1 w (by omega) f3 (ok_s ⟨rfl, rfl⟩)
      obtain ⟨v, H', e, rfl, rfl⟩ := hs
      exact e
    all_goals simp (disch := omega) only [l0, l1, l2, l3, l4, l5, l6, l7, l8, nI_inj, if_pos, if_neg, gd_nI, nI_clamp, m1.1, m1.2.1, m2, b_eq0, nI_l, if_true, Bool.true_eq_false, if_false, t1, t2, t3, t4, t5, t6]
theorem eq_look {nr : Nat} {H : Hp} (h : Rel nr H) (a b : Int32) : Look3 nr (f_X8_look nr a b H) (f_X8_look_t nr a b H) (fun H' => f_X9_look a b H') H := by
  obtain ⟨hRR, ρ, w, hr, hK, hC, hM⟩ := id h
  have h8 := hRR.1
  have hRR' : RR nr (sI H 0 0 34 0) := RR_sI hRR (by omega) (by omega)
  rcases arg_cases a (n := nr) (by omega) with ⟨r, hrn, rfl⟩ | ha
  · obtain ⟨b1, b2, b3⟩ := hr r hrn
    rcases arg_cases b (n := 10) (by decide) with ⟨j, hj, rfl⟩ | hb
    · have h9 : nI j ≤ (9 : Int32) := by show nI j ≤ nI 9; rw [nI_le_iff (by omega) (by omega)]; omega
      refine look_yes h (lookV (ρ r) j) ?_ ?_
      · unfold f_X8_look
        rw [rt_yes hRR hrn, bnd_s, nz_s hrn, if_neg (nI_pos (by omega)), if_pos h9, x8_lookV b1 b2 hj, bnd_s]
      · exact x9_lookV (Rel_out h _).1 hrn b1 (MR_out b3 _) hj
    · refine look_no h (Or.inr rfl) ?_ ?_
      · unfold f_X8_look_t
        rw [rt_yes hRR hrn, bnd_s, nz_s hrn]
        by_cases b0 : b < 0
        · rw [if_pos b0]
        · rw [if_neg b0, if_neg (fun z => hb ⟨Int32.not_lt.mp b0, c9.mp z⟩)]
      · unfold f_X9_look f_X9_fails
        rw [hl_e, ir_yes hRR' hrn, bnd_s, if_neg (by decide)]
        by_cases b0 : b < 0
        · rw [if_pos b0, hl_e, bnd_s]; rfl
        · rw [if_neg b0, if_neg (fun z => hb ⟨Int32.not_lt.mp b0, c9.mp z⟩), hl_e, bnd_s]; rfl
  · refine look_no h (Or.inl rfl) ?_ ?_
    · unfold f_X8_look_t
      rw [rt_no hRR ha, bnd_s, nz_n]
    · unfold f_X9_look f_X9_fails
      rw [hl_e, ir_no hRR' ha, bnd_s, if_pos rfl, hl_e, bnd_s]; rfl
