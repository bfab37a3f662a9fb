/-- ofBlock on both sides -/
def opn (w : Wk) (r b : Nat) : Nat := cntP (fun f => decide (wR w f = r ∧ wB w f = b)) (wF w)
theorem nI_and {x y r b : Nat} (hx : x < 2 ^ 31) (hy : y < 2 ^ 31) (hr : r < 2 ^ 31) (hb : b < 2 ^ 31) : (nI x = nI r ∧ nI y = nI b) ↔ (x = r ∧ y = b) := by rw [nI_inj hx hr, nI_inj hy hb]
theorem m_open {nr r b : Nat} {ρ : Nat → Rt} {w : Wk} {H : Hp} (hn : nr ≤ 8) (hP : ∀ r, r < nr → PR (ρ r)) (hK : PK nr ρ w) (hM : MK w H) (hr : r < nr) (hb : b < 20) : f_X9_openOf (nI r) (nI b) H = some (nI (opn w r b), H) := by
  rw [x9_openOf hM.1 hK.1]
  congr 3
  refine cntP_congr (fun f hf => ?_)
  obtain ⟨v1, v2, v3⟩ := hM.2.2.2.2 f hf
  obtain ⟨k1, k2, k3⟩ := hK.2.2.2.1 f hf
  have hB := (hP _ k1).1.1
  rw [v1, v2]
  simp only [nI_and (show wR w f < 2 ^ 31 by omega) (show wB w f < 2 ^ 31 by omega) (show r < 2 ^ 31 by omega) (show b < 2 ^ 31 by omega)]
theorem x6_open {nr r b : Nat} {ρ : Nat → Rt} {w : Wk} {H : Hp} (hn : nr ≤ 8) (hP : ∀ r, r < nr → PR (ρ r) ∧ gI H (r + 2) 0 0 = nI r) (hK : PK nr ρ w) (hC : CK w H) (hr : r < nr) (hb : b < 20) : f_X6_openAt nr (nI r) (nI b) H = some (nI (opn w r b), H) := by
  have h30 := hK.1
  suffices hs : ok (f_X6_openAt nr (nI r) (nI b) H) (fun v H' => v = nI (opn w r b) ∧ H' = H) by
    obtain ⟨v, H', e, rfl, rfl⟩ := hs
    exact e
  unfold f_X6_openAt
  refine ok_g2 (wF w) (fun i x H' => H' = H ∧ x = nI (cntP (fun f => decide (wR w f = r ∧ wB w f = b)) i)) ?_ ?_ rfl ⟨rfl, rfl⟩ (FUgt (by omega))
  · rintro i n x H1 hi ⟨rfl, rfl⟩ K1
    obtain ⟨k1, k2, k3⟩ := hK.2.2.2.1 i hi
    obtain ⟨g1, g2, g3⟩ := hC.2.2.2.2 i hi
    have hB := (hP _ k1).1.1.1
    have hof := x6_isOf k1 (show i < 30 by omega) g1 (hP _ k1).2 (nI r)
    have hcl := cntP_le (fun f => decide (wR w f = r ∧ wB w f = b)) i
    rw [L_X6_openAt_5]
    simp (disch := omega) only [hC.1, nI_le_iff, if_neg, hof, bnd_s, nI_inj, vl, l1, nIadd, gd_nI, nI_clamp, g2]
    by_cases q : wR w i = r
    · simp only [if_pos q]
      rw [if_neg (by decide)]
      refine ok_if (fun q2 => K1 _ _ ⟨rfl, ?_⟩) (fun q2 => K1 _ _ ⟨rfl, ?_⟩)
      · rw [cntP_s, if_pos (decide_eq_true ⟨q, q2⟩)]
      · rw [cntP_s, if_neg (fun z => q2 (of_decide_eq_true z).2)]; rfl
    · simp only [if_neg q, if_true]
      refine K1 _ _ ⟨rfl, ?_⟩
      rw [cntP_s, if_neg (fun z => q (of_decide_eq_true z).1)]; rfl
  · rintro n x H1 ⟨rfl, rfl⟩
    rw [L_X6_openAt_5]
    simp (disch := omega) only [hC.1, nI_le_iff, if_pos]
    exact ok_s ⟨rfl, rfl⟩
theorem opn_0 {nr r b : Nat} {ρ : Nat → Rt} {w : Wk} (hK : PK nr ρ w) (hd : rD (ρ r) = false) : opn w r b = 0 := by
  have : ∀ m, m ≤ wF w → cntP (fun f => decide (wR w f = r ∧ wB w f = b)) m = 0 := by
    intro m
    induction m with
    | zero => intro _; rfl
    | succ m ih =>
      intro hm
      rw [cntP_s, ih (by omega), if_neg]
      intro z
      have z1 := (of_decide_eq_true z).1
      have := (hK.2.2.2.1 m (by omega)).2.1
      rw [z1, hd] at this; cases this
  exact this _ (Nat.le_refl _)
def blkV (a : Rt) (op b j : Nat) : Int64 := if j = 0 then lN (qK (rG a) b) else if j = 1 then Int32.toInt64 (qC (rG a) b) else if j = 2 then lN (oN (rG a) b (qE (rG a))) else if j = 3 then lN (iN (rG a) b (qE (rG a))) else if rD a = false then (if j = 5 then -1 else 0) else if j = 4 then lN (nW (rG a) b) else if j = 5 then bsV (rG a) b else if j = 6 then rp a b else if j = 7 then (rlg a).2.2.1 b else lN op
theorem num9 {j : Nat} (h : j < 9) : j = 0 ∨ j = 1 ∨ j = 2 ∨ j = 3 ∨ j = 4 ∨ j = 5 ∨ j = 6 ∨ j = 7 ∨ j = 8 := by omega
theorem x8_blkV {nr r b j op : Nat} {a : Rt} {H : Hp} (hP : PR a) (hC : CR r a H) (hb : b < qB (rG a)) (hj : j < 9) (ho : f_X6_openAt nr (nI r) (nI b) H = some (nI op, H)) (hop : op ≤ 30) (h0 : rD a = false → op = 0) : (if nI j = (8 : Int32) then bnd (f_X6_openAt nr (nI r) (nI b) H) (fun w16 H15 => some ((Int32.toInt64 w16), H15)) else if (4 : Int32) ≤ nI j then bnd (f_X2_countOfBlock r (nI b) (nI j) H) (fun w12 H11 => some (w12, H11)) else bnd (f_X3_shapeOfBlock r (nI b) (nI j) H) (fun w14 H13 => some (w14, H13))) = some (blkV a op b j, H) := by
  have w := hP.1
  have hB := w.1
  have hE := w.2.1
  have hk := w.2.2.1 b hb
  have hon := w.2.2.2.2.1 b hb
  have hin := iN_le (rG a) b (qE (rG a))
  obtain ⟨c1, c2, c3, c4, c5⟩ := id hC
  obtain ⟨g1, g2, g3, g4, g5, g6, g7, g8, g9, g10, g11⟩ := id c2
  unfold blkV
  cases hd : rD a with
  | false =>
    rw [hd] at c3
    have hop0 := h0 hd
    unfold f_X2_countOfBlock f_X3_shapeOfBlock
    rcases num9 hj with rfl | rfl | rfl | rfl | rfl | rfl | rfl | rfl | rfl <;> simp (disch := omega) only [l0, l1, l2, l4, l5, l8, nI_le_iff, nI_inj, if_pos, if_neg, gd_nI, nI_clamp, c3, b_eq0, bnd_s, g3, g4, g5, g6, nI_l, if_true, ho]
    rw [hop0]; rfl
  | true =>
    rw [hd] at c3
    obtain ⟨f1, f2, f3, f4, f5, f6, f7⟩ := c5 hd
    have t18 := f2.1 b hb
    have t19 := f2.2.1 b hb
    have t20 := f4.1 b hb
    have t36 := f5.2.1 b (by omega)
    unfold f_X2_countOfBlock f_X3_shapeOfBlock
    rcases num9 hj with rfl | rfl | rfl | rfl | rfl | rfl | rfl | rfl | rfl <;> simp (disch := omega) only [l0, l1, l2, l4, l5, l6, l8, nI_le_iff, nI_inj, if_pos, if_neg, gd_nI, nI_clamp, c3, b_eq0, bnd_s, g3, g4, g5, g6, nI_l, if_true, Bool.true_eq_false, if_false, ho, t18, t19, t20, t36]
theorem x9_blkV {nr r b j op : Nat} {a : Rt} {H : Hp} (hRR : RR nr H) (hr : r < nr) (hP : PR a) (hM : MR r a H) (hb : b < qB (rG a)) (hj : j < 9) (ho : f_X9_openOf (nI r) (nI b) (sI H 0 0 34 0) = some (nI op, sI H 0 0 34 0)) (hop : op ≤ 30) : f_X9_ofBlock (nI r) (nI b) (nI j) H = some (blkV a op b j, sI H 0 0 34 0) := by
  have h8 := hRR.1
  have w := hP.1
  have hB := w.1
  have hE := w.2.1
  have hk := w.2.2.1 b hb
  have hon := w.2.2.2.2.1 b hb
  have hin := iN_le (rG a) b (qE (rG a))
  have hRR' : RR nr (sI H 0 0 34 0) := RR_sI hRR (by omega) (by omega)
  obtain ⟨m1, m2, m3, m4⟩ := MR_34 hM 0
  unfold f_X9_ofBlock blkV
  rw [hl_e]
  generalize sI H 0 0 34 0 = H0 at hRR' m1 m2 m4 ho ⊢
  obtain ⟨g1, g2, g3, g4, g5, g6, g7, g8⟩ := id m1
  have mo := m_outs m1 w (show r < 8 by omega) (show b < 2 ^ 31 by omega)
  have mi := m_ins m1 w (show r < 8 by omega) (show b < 2 ^ 31 by omega)
  rw [ib_yes hRR' hr g1, bnd_s, if_pos (ar_in hb (by omega)), if_neg (by decide), if_neg (nI_pos (by omega)), if_pos (by show nI j ≤ nI 8; rw [nI_le_iff (by omega) (by omega)]; omega)]
  cases hd : rD a with
  | false =>
    rw [hd] at m2
    rcases num9 hj with rfl | rfl | rfl | rfl | rfl | rfl | rfl | rfl | rfl <;> simp (disch := omega) only [l0, l1, l2, l3, l4, l5, l20, nImul, nIadd, vl, nI_inj, if_pos, if_neg, gd_nI, nI_clamp, m2, b_eq0, g3, g4, nI_l, if_true, mo, mi, bnd_s]
  | true =>
    rw [hd] at m2
    obtain ⟨f1, f2, f3, f4⟩ := m4 hd
    have t15 := f1.1 b hb
    have t16 := f1.2.1 b hb
    have t18 := f2.2.2.2 b hb
    have t21 := f3.2.1 b (by omega)
    rcases num9 hj with rfl | rfl | rfl | rfl | rfl | rfl | rfl | rfl | rfl <;> simp (disch := omega) only [l0, l1, l2, l3, l4, l5, l6, l7, l20, nImul, nIadd, vl, nI_inj, if_pos, if_neg, gd_nI, nI_clamp, m2, b_eq0, Bool.true_eq_false, if_false, g3, g4, nI_l, if_true, mo, mi, bnd_s, t15, t16, t18, t21, ho]
theorem eq_ofBlock {nr : Nat} {H : Hp} (h : Rel nr H) (a b c : Int32) : Look3 nr (f_X8_ofBlock nr a b c H) (f_X8_ofBlock_t nr a b c H) (fun H' => f_X9_ofBlock a b c H') H := by
  obtain ⟨hRR, ρ, w, hr, hK, hC, hM⟩ := id h
  have h8 := hRR.1
  have hRR' : RR nr (sI H 0 0 34 0) := RR_sI hRR (by omega) (by omega)
  rcases arg_cases a (n := nr) (by omega) with ⟨r, hrn, rfl⟩ | ha
  · obtain ⟨b1, b2, b3⟩ := hr r hrn
    have hB := b1.1.1
    have m2 := (MR_34 b3 0).1.1
    rcases arg_cases b (n := qB (rG (ρ r))) (by omega) with ⟨e, he, rfl⟩ | hb
    · rcases arg_cases c (n := 9) (by decide) with ⟨j, hj, rfl⟩ | hc
      · have h9 : nI j ≤ (8 : Int32) := by show nI j ≤ nI 8; rw [nI_le_iff (by omega) (by omega)]; omega
        have hop : opn w r e ≤ 30 := Nat.le_trans (cntP_le _ _) hK.1
        refine look_yes h (blkV (ρ r) (opn w r e) e j) ?_ ?_
        · unfold f_X8_ofBlock
          rw [rt_yes hRR hrn, bnd_s, nz_s hrn, hb_x3 b2.2.1.1, bnd_s, if_pos (ar_in he (by omega)), if_neg (by decide), if_neg (nI_pos (by omega)), if_pos h9]
          exact x8_blkV b1 b2 he hj (x6_open h8 (fun q hq => ⟨(hr q hq).1, (hr q hq).2.1.1⟩) hK hC hrn (by omega)) hop (fun hd => opn_0 hK hd)
        · refine x9_blkV (Rel_out h _).1 hrn b1 (MR_out b3 _) he hj ?_ hop
          exact m_open h8 (fun q hq => (hr q hq).1) hK (MK_34 (MK_eq hM (fun k i => gI_sJ _ _ _ _ _ _ _ _) (fun k i => gJ_ne (by omega))) 0) hrn (by omega)
      · refine look_no h (Or.inr rfl) ?_ ?_
        · unfold f_X8_ofBlock_t
          rw [rt_yes hRR hrn, bnd_s, nz_s hrn, hb_x3 b2.2.1.1, bnd_s, if_pos (ar_in he (by omega)), if_neg (by decide)]
          by_cases c0 : c < 0
          · rw [if_pos c0]
          · rw [if_neg c0, if_neg (fun z => hc ⟨Int32.not_lt.mp c0, c8'.mp z⟩)]
        · unfold f_X9_ofBlock f_X9_fails
          rw [hl_e, ib_yes hRR' hrn m2, bnd_s, if_pos (ar_in he (by omega)), if_neg (by decide)]
          by_cases c0 : c < 0
          · rw [if_pos c0, hl_e, bnd_s]; rfl
          · rw [if_neg c0, if_neg (fun z => hc ⟨Int32.not_lt.mp c0, c8'.mp z⟩), hl_e, bnd_s]; rfl
    · refine look_no h (Or.inl rfl) ?_ ?_
      · unfold f_X8_ofBlock_t
        rw [rt_yes hRR hrn, bnd_s, nz_s hrn, hb_x3 b2.2.1.1, bnd_s, if_neg hb, if_pos rfl]
      · unfold f_X9_ofBlock f_X9_fails
        rw [hl_e, ib_yes hRR' hrn m2, bnd_s, if_neg hb, if_pos rfl, hl_e, bnd_s]; rfl
  · refine look_no h (Or.inl rfl) ?_ ?_
    · unfold f_X8_ofBlock_t
      rw [rt_no hRR ha, bnd_s, nz_n]
    · unfold f_X9_ofBlock f_X9_fails f_X9_isBlock
      rw [hl_e, ir_no hRR' ha, bnd_s, if_pos rfl, bnd_s, if_pos rfl, hl_e, bnd_s]; rfl
