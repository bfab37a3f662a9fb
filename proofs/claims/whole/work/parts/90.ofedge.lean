/-- ofEdge on both sides -/
noncomputable def edgeV (a : Rt) (e j : Nat) : Int64 := if j = 0 then lN (qF (rG a) e) else if j = 1 then lN (qT (rG a) e) else if j = 2 then lN (qG (rG a) e) else if j = 3 then (if qW (rG a) e = false then 0 else 1) else if rD a = false then (if j = 5 then -1 else 0) else if j = 4 then (if tb (rGp a) e = true then 0 else 1) else if j = 5 then (if tb (rGp a) e = true then -1 else if oN (rG a) (qF (rG a) e) (qE (rG a)) = 1 then 1 else if iN (rG a) (qT (rG a) e) (qE (rG a)) = 1 ∧ qT (rG a) e ≠ 0 then 2 else 0) else if j = 6 then (rlg a).1 e else if j = 7 then (rlg a).2.1 e else if j = 8 then lN (aD (rG a) e) else if qW (rG a) e = true then 0 else lN (aD (rG a) e) + rp a (qF (rG a) e) - rp a (qT (rG a) e)
theorem lk_gt (G : Gr) : qE G < lk G := by unfold lk; omega
theorem x2_hasCounter {r e : Nat} {a : Rt} {H : Hp} (hP : PR a) (hC : CR r a H) (hd : rD a = true) (he : e < qE (rG a)) : f_X2_hasCounter r (nI e) H = some (bI (!(tb (rGp a) e)), H) := by
  have w := hP.1
  have hE := w.2.1
  obtain ⟨c1, c2, c3, c4, c5⟩ := hC
  obtain ⟨f1, f2, f3, f4, f5, f6, f7⟩ := c5 hd
  rw [hd] at c3
  have t27 := f3.1 e (by have := lk_gt (rG a); omega)
  unfold f_X2_hasCounter
  rw [c3, if_neg (by decide), he_x3 c2.2.1, bnd_s, if_pos (ar_in he (by omega)), if_neg (by decide), gd_nI (by omega) (by decide), nI_clamp (by omega), t27]
  cases tb (rGp a) e with
  | true => rfl
  | false => rfl
theorem x3_stand {r e : Nat} {G : Gr} {H : Hp} (h : CG r G H) (w : WG G) (he : e < qE G) : f_X3_standOf r (nI e) H = some (nI (if oN G (qF G e) (qE G) = 1 then 1 else if iN G (qT G e) (qE G) = 1 ∧ qT G e ≠ 0 then 2 else 0), H) := by
  have hB := w.1
  have hE := w.2.1
  have wf := w.2.2.2.1 e he
  have ho := w.2.2.2.2.1 _ wf.1
  have hi := iN_le G (qT G e) (qE G)
  have h1 : iN G (qT G e) e < iN G (qT G e) (qE G) := cntP_lt he (decide_eq_true rfl)
  obtain ⟨g1, g2, g3, g4, g5, g6, g7, g8, g9, g10, g11⟩ := id h
  unfold f_X3_standOf
  simp (disch := omega) only [gd_nI, nI_clamp, g8, g9, g5, g6, l0, l1, nI_inj, if_true, vl, nIadd]
  by_cases q1 : oN G (qF G e) (qE G) = 1
  · rw [if_pos q1, if_pos q1]
  · rw [if_neg q1, if_neg q1]
    by_cases q2 : qT G e = 0
    · rw [if_pos q2, if_neg (by omega), if_neg (by omega)]
    · rw [if_neg q2]
      by_cases q3 : iN G (qT G e) (qE G) = 1
      · rw [if_pos (by omega), if_pos ⟨q3, q2⟩]; rfl
      · rw [if_neg (by omega), if_neg (fun z => q3 z.1)]
theorem j_nI {n : Nat} (h : n < 2 ^ 31) : Int32.toInt64 (nI n) = lN n := nI_l h
theorem x8_edgeV {r e j : Nat} {a : Rt} {H : Hp} (hP : PR a) (hC : CR r a H) (he : e < qE (rG a)) (hj : j < 10) : (if (4 : Int32) ≤ nI j then bnd (f_X2_countOfEdge r (nI e) (nI j) H) (fun w11 H10 => some (w11, H10)) else bnd (f_X3_shapeOfEdge r (nI e) (nI j) H) (fun w13 H12 => some (w13, H12))) = some (edgeV a e j, H) := by
  have w := hP.1
  have hB := w.1
  have hE := w.2.1
  have wf := w.2.2.2.1 e he
  obtain ⟨c1, c2, c3, c4, c5⟩ := id hC
  obtain ⟨g1, g2, g3, g4, g5, g6, g7, g8, g9, g10, g11⟩ := id c2
  unfold edgeV
  cases hd : rD a with
  | false =>
    rw [hd] at c3
    have nc : f_X2_hasCounter r (nI e) H = some (0, H) := by
      unfold f_X2_hasCounter
      rw [c3, if_pos (show bI false = 0 from rfl)]
    unfold f_X2_countOfEdge f_X3_shapeOfEdge
    rcases num10 hj with rfl | rfl | rfl | rfl | rfl | rfl | rfl | rfl | rfl | rfl <;> simp (disch := omega) only [l0, l1, l2, l4, l5, nI_le_iff, nI_inj, if_pos, if_neg, gd_nI, nI_clamp, c3, b_eq0, bnd_s, g8, g9, g10, g11, nI_l, if_true, nc]
    cases qW (rG a) e <;> rfl
  | true =>
    rw [hd] at c3
    obtain ⟨f1, f2, f3, f4, f5, f6, f7⟩ := c5 hd
    have hc := x2_hasCounter hP hC hd he
    have hs := x3_stand c2 w he
    have t34 := (f5.1 e (by omega)).1
    have t35 := (f5.1 e (by omega)).2
    have t21 := f2.2.2.1 e he
    have t22 := f4.2 e he
    rcases num10 hj with rfl | rfl | rfl | rfl | rfl | rfl | rfl | rfl | rfl | rfl
    case inr.inr.inr.inr.inr.inl =>
      unfold f_X2_countOfEdge
      simp (disch := omega) only [l4, l5, nI_le_iff, nI_inj, if_pos, if_true, if_neg, hc, bnd_s, hs, l0, b_eq0, Bool.true_eq_false, if_false]
      cases tb (rGp a) e with
      | true => rfl
      | false =>
        simp only [Bool.not_false, Bool.true_eq_false, Bool.false_eq_true, if_false]
        congr 2
        split
        · rfl
        · split <;> rfl
    case inr.inr.inr.inr.inl =>
      unfold f_X2_countOfEdge
      simp (disch := omega) only [l4, l5, nI_le_iff, nI_inj, if_pos, if_true, if_neg, hc, bnd_s, c3, l0, b_eq0, Bool.true_eq_false, if_false]
      cases tb (rGp a) e with
      | true => rfl
      | false => rfl
    case inr.inr.inr.inl =>
      unfold f_X3_shapeOfEdge
      simp (disch := omega) only [l0, l1, l2, l4, nI_le_iff, nI_inj, if_neg, if_pos, if_true, gd_nI, nI_clamp, g11, b_eq0]
      cases qW (rG a) e <;> rfl
    all_goals unfold f_X2_countOfEdge f_X3_shapeOfEdge
    all_goals simp (disch := omega) only [l0, l1, l2, l4, l5, l6, l7, l8, nI_le_iff, nI_inj, if_pos, if_true, if_neg, gd_nI, nI_clamp, c3, b_eq0, Bool.true_eq_false, if_false, bnd_s, g8, g9, g10, nI_l, t34, t35, t21, t22]
theorem x9_edgeV {nr r e j : Nat} {a : Rt} {H : Hp} (hRR : RR nr H) (hr : r < nr) (hP : PR a) (hM : MR r a H) (he : e < qE (rG a)) (hj : j < 10) : f_X9_ofEdge (nI r) (nI e) (nI j) H = some (edgeV a e j, sI H 0 0 34 0) := by
  have h8 := hRR.1
  have w := hP.1
  have hB := w.1
  have hE := w.2.1
  have wf := w.2.2.2.1 e he
  have ho := w.2.2.2.2.1 _ wf.1
  have hi := iN_le (rG a) (qT (rG a) e) (qE (rG a))
  have hRR' : RR nr (sI H 0 0 34 0) := RR_sI hRR (by omega) (by omega)
  obtain ⟨m1, m2, m3, m4⟩ := MR_34 hM 0
  unfold f_X9_ofEdge edgeV
  rw [hl_e]
  generalize sI H 0 0 34 0 = H0 at hRR' m1 m2 m4 ⊢
  obtain ⟨g1, g2, g3, g4, g5, g6, g7, g8⟩ := id m1
  rw [ie_yes hRR' hr g2, bnd_s, if_pos (ar_in he (by omega)), if_neg (by decide), if_neg (nI_pos (by omega)), if_pos (by show nI j ≤ nI 9; rw [nI_le_iff (by omega) (by omega)]; omega)]
  cases hd : rD a with
  | false =>
    rw [hd] at m2
    rcases num10 hj with rfl | rfl | rfl | rfl | rfl | rfl | rfl | rfl | rfl | rfl <;> simp (disch := omega) only [l0, l1, l2, l3, l4, l5, l40, nImul, nIadd, vl, nI_inj, if_pos, if_neg, gd_nI, nI_clamp, m2, b_eq0, g5, g6, g7, g8, nI_l, if_true]
    cases qW (rG a) e <;> rfl
  | true =>
    rw [hd] at m2
    obtain ⟨f1, f2, f3, f4⟩ := m4 hd
    have t11 := f2.1 e he
    have t22 := (f3.1 e (by omega)).1
    have t23 := (f3.1 e (by omega)).2
    have t17 := f1.2.2.1 e he
    have t18 := f2.2.2.2
    have mo := m_outs m1 w (show r < 8 by omega) (show qF (rG a) e < 2 ^ 31 by omega)
    have mi := m_ins m1 w (show r < 8 by omega) (show qT (rG a) e < 2 ^ 31 by omega)
    rcases num10 hj with rfl | rfl | rfl | rfl | rfl | rfl | rfl | rfl | rfl | rfl
    case inr.inr.inr.inr.inr.inl =>
      simp (disch := omega) only [l0, l1, l2, l3, l4, l5, l40, nImul, nIadd, vl, nI_inj, if_pos, if_true, if_neg, gd_nI, nI_clamp, m2, b_eq0, Bool.true_eq_false, if_false, t11, g5, g6, mo, mi, bnd_s]
      cases tb (rGp a) e with
      | true => rfl
      | false =>
        simp only [Bool.not_false, Bool.true_eq_false, Bool.false_eq_true, if_false]
        by_cases q1 : oN (rG a) (qF (rG a) e) (qE (rG a)) = 1
        · rw [if_pos q1, if_pos q1]
        · rw [if_neg q1, if_neg q1]
          by_cases q3 : iN (rG a) (qT (rG a) e) (qE (rG a)) = 1
          · rw [if_pos q3]
            by_cases q2 : qT (rG a) e = 0
            · rw [if_pos q2, if_neg (fun z => z.2 q2)]
            · rw [if_neg q2, if_pos ⟨q3, q2⟩]
          · rw [if_neg q3, if_neg (fun z => q3 z.1)]
    case inr.inr.inr.inr.inl =>
      simp (disch := omega) only [l0, l1, l2, l3, l4, l40, nImul, nIadd, vl, nI_inj, if_pos, if_true, if_neg, gd_nI, nI_clamp, m2, b_eq0, Bool.true_eq_false, if_false, t11]
      cases tb (rGp a) e with
      | true => rfl
      | false => rfl
    case inr.inr.inr.inl =>
      simp (disch := omega) only [l0, l1, l2, l3, l40, nImul, nIadd, vl, nI_inj, if_pos, if_true, if_neg, gd_nI, nI_clamp, g8, b_eq0]
      cases qW (rG a) e <;> rfl
    case inr.inr.inr.inr.inr.inr.inr.inr.inr =>
      simp (disch := omega) only [l0, l1, l2, l3, l4, l5, l6, l7, l8, l20, l40, nImul, nIadd, vl, nI_inj, if_pos, if_true, if_neg, gd_nI, nI_clamp, m2, b_eq0, Bool.true_eq_false, if_false, g5, g6, g8, t17, t18]
      cases qW (rG a) e <;> rfl
    all_goals simp (disch := omega) only [l0, l1, l2, l3, l4, l5, l6, l7, l8, l40, nImul, nIadd, vl, nI_inj, if_pos, if_true, if_neg, gd_nI, nI_clamp, m2, b_eq0, Bool.true_eq_false, if_false, g5, g6, g7, nI_l, t17, t22, t23]
theorem eq_ofEdge {nr : Nat} {H : Hp} (h : Rel nr H) (a b c : Int32) : Look3 nr (f_X8_ofEdge nr a b c H) (f_X8_ofEdge_t nr a b c H) (fun H' => f_X9_ofEdge a b c H') H := by
  obtain ⟨hRR, ρ, w, hr, hK, hC, hM⟩ := id h
  have h8 := hRR.1
  have hRR' : RR nr (sI H 0 0 34 0) := RR_sI hRR (by omega) (by omega)
  rcases arg_cases a (n := nr) (by omega) with ⟨r, hrn, rfl⟩ | ha
  · obtain ⟨b1, b2, b3⟩ := hr r hrn
    have hE := b1.1.2.1
    have m2 := (MR_34 b3 0).1.2.1
    rcases arg_cases b (n := qE (rG (ρ r))) (by omega) with ⟨e, he, rfl⟩ | hb
    · rcases arg_cases c (n := 10) (by decide) with ⟨j, hj, rfl⟩ | hc
      · have h9 : nI j ≤ (9 : Int32) := by show nI j ≤ nI 9; rw [nI_le_iff (by omega) (by omega)]; omega
        refine look_yes h (edgeV (ρ r) e j) ?_ ?_
        · unfold f_X8_ofEdge
          rw [rt_yes hRR hrn, bnd_s, nz_s hrn, he_x3 b2.2.1.2.1, bnd_s, if_pos (ar_in he (by omega)), if_neg (by decide), if_neg (nI_pos (by omega)), if_pos h9]
          exact x8_edgeV b1 b2 he hj
        · exact x9_edgeV (Rel_out h _).1 hrn b1 (MR_out b3 _) he hj
      · refine look_no h (Or.inr rfl) ?_ ?_
        · unfold f_X8_ofEdge_t
          rw [rt_yes hRR hrn, bnd_s, nz_s hrn, he_x3 b2.2.1.2.1, bnd_s, if_pos (ar_in he (by omega)), if_neg (by decide)]
          by_cases c0 : c < 0
          · rw [if_pos c0]
          · rw [if_neg c0, if_neg (fun z => hc ⟨Int32.not_lt.mp c0, c9.mp z⟩)]
        · unfold f_X9_ofEdge f_X9_fails
          rw [hl_e, ie_yes hRR' hrn m2, bnd_s, if_pos (ar_in he (by omega)), if_neg (by decide)]
          by_cases c0 : c < 0
          · rw [if_pos c0, hl_e, bnd_s]; rfl
          · rw [if_neg c0, if_neg (fun z => hc ⟨Int32.not_lt.mp c0, c9.mp z⟩), hl_e, bnd_s]; rfl
    · refine look_no h (Or.inl rfl) ?_ ?_
      · unfold f_X8_ofEdge_t
        rw [rt_yes hRR hrn, bnd_s, nz_s hrn, he_x3 b2.2.1.2.1, bnd_s, if_neg hb, if_pos rfl]
      · unfold f_X9_ofEdge f_X9_fails
        rw [hl_e, ie_yes hRR' hrn m2, bnd_s, if_neg hb, if_pos rfl, hl_e, bnd_s]; rfl
  · refine look_no h (Or.inl rfl) ?_ ?_
    · unfold f_X8_ofEdge_t
      rw [rt_no hRR ha, bnd_s, nz_n]
    · unfold f_X9_ofEdge f_X9_fails f_X9_isEdge
      rw [hl_e, ir_no hRR' ha, bnd_s, if_pos rfl, bnd_s, if_pos rfl, hl_e, bnd_s]; rfl
