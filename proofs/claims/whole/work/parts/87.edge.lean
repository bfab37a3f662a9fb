/-- edge on both sides -/
def addE (G : Gr) (a b g : Nat) (k : Bool) : Gr := (qB G, qE G + 1, qK G, qC G, upN (qF G) (qE G) a, upN (qT G) (qE G) b, upN (qG G) (qE G) g, upB (qW G) (qE G) k)
def H8e (r : Nat) (G : Gr) (a b g : Nat) (k : Bool) (H : Hp) : Hp := sI (sI (sI (sI (sI (sI (sI (sI H (r + 2) 13 (qE G) (nI a)) (r + 2) 14 (qE G) (nI b)) (r + 2) 15 (qE G) (nI g)) (r + 2) 16 (qE G) (bI k)) (r + 2) 12 (a * 4 + oN G a (qE G)) (nI (qE G))) (r + 2) 10 a (nI (oN G a (qE G) + 1))) (r + 2) 11 b (nI (iN G b (qE G) + 1))) (r + 2) 1 11 (nI (qE G + 1))
def H9e (r : Nat) (G : Gr) (a b g : Nat) (k : Bool) (H : Hp) : Hp := sI (sI (sI (sI (sI (sI (sI H 0 0 34 0) 0 6 (40 * r + qE G) (nI a)) 0 7 (40 * r + qE G) (nI b)) 0 8 (40 * r + qE G) (nI g)) 0 9 (40 * r + qE G) (bI k)) 0 10 (40 * r + qE G) 0) 0 2 r (nI (qE G + 1))
theorem iN_le (G : Gr) (b n : Nat) : iN G b n ≤ n := cntP_le _ _
theorem x3_addEdge {r a b g : Nat} {k : Bool} {G : Gr} {H : Hp} (h : CG r G H) (w : WG G) (ha : a < qB G) (hb : b < qB G) (hg : g ≤ 1000000) : f_X3_addEdge r (nI a) (nI b) (nI g) (bI k) H = if qE G < 40 ∧ qK G a < 3 ∧ oN G a (qE G) < 4 then some (nI (qE G), H8e r G a b g k H) else some (-1, H) := by
  have hB := w.1
  have hE := w.2.1
  have hK := w.2.2.1 a ha
  have hi := iN_le G b (qE G)
  have ho := w.2.2.2.2.1 a ha
  obtain ⟨g1, g2, g3, g4, g5, g6, g7, g8, g9, g10, g11⟩ := id h
  unfold f_X3_addEdge
  simp (disch := omega) only [g2, l40, nI_le_iff, hb_x3 g1, bnd_s, x3_ends h w ha, ar_in ha, ar_in hb, if_true]
  by_cases hE2 : qE G < 40
  · rw [if_neg (by omega), if_neg (by decide), if_neg (by decide)]
    by_cases k3 : 3 ≤ qK G a
    · rw [decide_eq_true k3, if_neg (by decide), if_neg (by omega)]
    · rw [decide_eq_false k3, if_pos (show bI false = 0 from rfl)]
      simp (disch := omega) only [gd_nI, nI_clamp, g5, l4, nI_lt_iff]
      by_cases o4 : oN G a (qE G) < 4
      · rw [if_pos o4, if_pos ⟨hE2, by omega, o4⟩]
        simp (disch := omega) only [g2, gd_nI, nI_clamp, hl, gI_ne, b_nar, g5, g6, nImul, nIadd, l1, gI_eq, nI_sub, Nat.add_sub_cancel]
        rfl
      · rw [if_neg o4, if_neg (by omega)]
  · rw [if_pos (by omega), if_neg (by omega)]
theorem cntP_up {P Q : Nat → Bool} {n : Nat} (h : ∀ i, i < n → Q i = P i) : cntP Q n = cntP P n := cntP_congr h
theorem oN_add {G : Gr} {a b g : Nat} {k : Bool} {x n : Nat} (hn : n ≤ qE G) : oN (addE G a b g k) x n = oN G x n := by
  refine cntP_congr (fun i hi => ?_)
  show decide (upN (qF G) (qE G) a i = x) = decide (qF G i = x)
  rw [upN_ne (by omega)]
theorem oN_add1 {G : Gr} {a b g : Nat} {k : Bool} {x : Nat} : oN (addE G a b g k) x (qE G + 1) = oN G x (qE G) + if a = x then 1 else 0 := by
  show cntP (fun e => decide (upN (qF G) (qE G) a e = x)) (qE G + 1) = _
  rw [cntP_s, upN_eq]
  have := oN_add (G := G) (a := a) (b := b) (g := g) (k := k) (x := x) (Nat.le_refl (qE G))
  have e2 : cntP (fun e => decide (upN (qF G) (qE G) a e = x)) (qE G) = oN G x (qE G) := this
  rw [e2]
  simp only [decide_eq_true_eq]
theorem iN_add1 {G : Gr} {a b g : Nat} {k : Bool} {x : Nat} : iN (addE G a b g k) x (qE G + 1) = iN G x (qE G) + if b = x then 1 else 0 := by
  show cntP (fun e => decide (upN (qT G) (qE G) b e = x)) (qE G + 1) = _
  rw [cntP_s, upN_eq]
  have e2 : cntP (fun e => decide (upN (qT G) (qE G) b e = x)) (qE G) = iN G x (qE G) := by
    refine cntP_congr (fun i hi => ?_)
    show decide (upN (qT G) (qE G) b i = x) = decide (qT G i = x)
    rw [upN_ne (by omega)]
  rw [e2]
  simp only [decide_eq_true_eq]
theorem WG_addE {G : Gr} {a b g : Nat} {k : Bool} (w : WG G) (ha : a < qB G) (hb : b < qB G) (hg : g ≤ 1000000) (hE : qE G < 40) (ho : oN G a (qE G) < 4) : WG (addE G a b g k) := by
  refine ⟨w.1, by show qE G + 1 ≤ 40; omega, w.2.2.1, fun e he => ?_, fun x hx => ?_, w.2.2.2.2.2⟩
  · have he' : e < qE G + 1 := he
    show upN (qF G) (qE G) a e < qB G ∧ upN (qT G) (qE G) b e < qB G ∧ upN (qG G) (qE G) g e ≤ 1000000
    by_cases q : e = qE G
    · rw [q, upN_eq, upN_eq, upN_eq]; exact ⟨ha, hb, hg⟩
    · rw [upN_ne q, upN_ne q, upN_ne q]; exact w.2.2.2.1 e (by omega)
  · show oN (addE G a b g k) x (qE G + 1) ≤ 4
    rw [oN_add1]
    have := w.2.2.2.2.1 x hx
    by_cases q : a = x
    · rw [if_pos q, ← q]; omega
    · rw [if_neg q]; omega
theorem CG_addE {r a b g : Nat} {k : Bool} {G : Gr} {H : Hp} (h : CG r G H) (w : WG G) (ha : a < qB G) (hb : b < qB G) (hE : qE G < 40) (ho : oN G a (qE G) < 4) : CG r (addE G a b g k) (H8e r G a b g k H) := by
  have hB := w.1
  obtain ⟨g1, g2, g3, g4, g5, g6, g7, g8, g9, g10, g11⟩ := h
  unfold H8e
  refine ⟨?_, ?_, fun x hx => ?_, fun x hx => ?_, fun x hx => ?_, fun x hx => ?_, fun e he => ?_, fun e he => ?_, fun e he => ?_, fun e he => ?_, fun e he => ?_⟩
  · simp (disch := omega) only [gI_ne]; exact g1
  · rw [gI_eq]; rfl
  · simp (disch := omega) only [gI_ne]; exact g3 x hx
  · simp (disch := omega) only [gI_ne]; exact g4 x hx
  · show _ = nI (oN (addE G a b g k) x (qE G + 1))
    rw [gI_ne (by omega), gI_ne (by omega), gI_sI, oN_add1]
    by_cases q : x = a
    · rw [if_pos ⟨rfl, rfl, q⟩, if_pos q.symm, q]
    · rw [if_neg (fun z => q z.2.2), if_neg (fun z => q z.symm)]
      simp (disch := omega) only [gI_ne]; exact g5 x hx
  · show _ = nI (iN (addE G a b g k) x (qE G + 1))
    rw [gI_ne (by omega), gI_sI, iN_add1]
    by_cases q : x = b
    · rw [if_pos ⟨rfl, rfl, q⟩, if_pos q.symm, q]
    · rw [if_neg (fun z => q z.2.2), if_neg (fun z => q z.symm)]
      simp (disch := omega) only [gI_ne]; exact g6 x hx
  · have he' : e < qE G + 1 := he
    show gI _ (r + 2) 12 (4 * upN (qF G) (qE G) a e + oN (addE G a b g k) (upN (qF G) (qE G) a e) e) = nI e
    rw [oN_add (by omega), gI_ne (by omega), gI_ne (by omega), gI_ne (by omega), gI_sI]
    by_cases q : e = qE G
    · rw [q, upN_eq, if_pos ⟨rfl, rfl, by omega⟩]
    · rw [upN_ne q]
      have wf := w.2.2.2.1 e (by omega)
      have hlt : oN G (qF G e) e < oN G (qF G e) (qE G) := cntP_lt (by omega) (decide_eq_true rfl)
      have h4 := w.2.2.2.2.1 _ wf.1
      rw [if_neg]
      · simp (disch := omega) only [gI_ne]; exact g7 e (by omega)
      · intro z
        have z3 := z.2.2
        by_cases q2 : qF G e = a
        · rw [q2] at z3 hlt; omega
        · omega
  · have he' : e < qE G + 1 := he
    show _ = nI (upN (qF G) (qE G) a e)
    by_cases q : e = qE G
    · rw [q, upN_eq]
      simp (disch := omega) only [gI_ne, gI_eq]
    · rw [upN_ne q]
      simp (disch := omega) only [gI_ne]; exact g8 e (by omega)
  · have he' : e < qE G + 1 := he
    show _ = nI (upN (qT G) (qE G) b e)
    by_cases q : e = qE G
    · rw [q, upN_eq]
      simp (disch := omega) only [gI_ne, gI_eq]
    · rw [upN_ne q]
      simp (disch := omega) only [gI_ne]; exact g9 e (by omega)
  · have he' : e < qE G + 1 := he
    show _ = nI (upN (qG G) (qE G) g e)
    by_cases q : e = qE G
    · rw [q, upN_eq]
      simp (disch := omega) only [gI_ne, gI_eq]
    · rw [upN_ne q]
      simp (disch := omega) only [gI_ne]; exact g10 e (by omega)
  · have he' : e < qE G + 1 := he
    show _ = bI (upB (qW G) (qE G) k e)
    by_cases q : e = qE G
    · rw [q, upB_eq]
      simp (disch := omega) only [gI_ne, gI_eq]
    · rw [upB_ne q]
      simp (disch := omega) only [gI_ne]; exact g11 e (by omega)
theorem ib_yes {nr r B : Nat} {H : Hp} (h : RR nr H) (hr : r < nr) (hB : gI H 0 1 r = nI B) (a : Int32) : f_X9_isBlock (nI r) a H = some (if 0 ≤ a ∧ a < nI B then 1 else 0, H) := by
  have h8 := h.1
  unfold f_X9_isBlock
  rw [ir_yes h hr, bnd_s, if_neg (by decide)]
  by_cases h1 : a < 0
  · rw [if_pos h1, if_neg (fun q => absurd h1 (Int32.not_lt.mpr q.1))]
  · rw [if_neg h1, gd_nI (by omega) (by decide), nI_clamp (by omega), hB]
    by_cases h2 : nI B ≤ a
    · rw [if_pos h2, if_neg (fun q => absurd q.2 (Int32.not_lt.mpr h2))]
    · rw [if_neg h2, if_pos ⟨Int32.not_lt.mp h1, Int32.not_le.mp h2⟩]
theorem hl_e {β : Type} (x : Hp) (f : Hp → β) : hl x f = f x := rfl
theorem x9_edge {nr r a b g : Nat} {k : Bool} {G : Gr} {H : Hp} (hRR : RR nr H) (hr : r < nr) (h : MG r G H) (w : WG G) (hd : gI H 0 3 r = bI false) (ha : a < qB G) (hb : b < qB G) (hg : g ≤ 1000000) : f_X9_edge (nI r) (nI a) (nI b) (nI g) (bI k) H = if qE G < 40 ∧ qK G a < 3 ∧ oN G a (qE G) < 4 then some (nI (qE G), H9e r G a b g k H) else some (-1, sI H 0 0 34 0) := by
  have h8 := hRR.1
  have hB := w.1
  have hE := w.2.1
  have hK := w.2.2.1 a ha
  have ho := w.2.2.2.2.1 a ha
  have hRR' : RR nr (sI H 0 0 34 0) := RR_sI hRR (by omega) (by omega)
  have hC00 : Ch TT [(0, 0, some 34)] H (sI H 0 0 34 0) := Ch.sI rfl rfl (Ch.rf H)
  have h' : MG r G (sI H 0 0 34 0) := MG_ch h hC00 rfl
  have hd' : gI (sI H 0 0 34 0) 0 3 r = bI false := by rw [hC00.gi _ _ _ rfl]; exact hd
  have gg : (0 : Int32) ≤ nI g ∧ nI g ≤ 1000000 := ⟨nI_pos' (by omega), by
    show nI g ≤ nI 1000000
    rw [nI_le_iff (by omega) (by omega)]; exact hg⟩
  unfold f_X9_edge H9e
  rw [hl_e]
  generalize sI H 0 0 34 0 = H0 at hRR' h' hd' ⊢
  obtain ⟨g1, g2, g3, g4, g5, g6, g7, g8⟩ := id h'
  rw [ir_yes hRR' hr, bnd_s, if_neg (by decide), gd_nI (by omega) (by decide), nI_clamp (n := r) (by omega), hd', if_pos (show bI false = 0 from rfl), gd_nI (by omega) (by decide), g2]
  by_cases hE2 : qE G < 40
  · rw [if_neg (by show ¬ nI (qE G) = nI 40; rw [nI_inj (by omega) (by omega)]; omega), ib_yes hRR' hr g1, bnd_s, if_pos (ar_in ha (by omega)), if_neg (by decide), ib_yes hRR' hr g1, bnd_s, if_pos (ar_in hb (by omega)), if_neg (by decide), ic_x9, bnd_s, if_pos gg, if_neg (by decide)]
    simp (disch := omega) only [l20, l40, nImul, nIadd, gd_nI, nI_clamp, g3, vl, l3, l4, nI_inj, m_outs h' w (show r < 8 by omega) (show a < 2 ^ 31 by omega), bnd_s]
    by_cases k3 : qK G a = 3
    · rw [if_pos k3, if_neg (by omega)]
    · rw [if_neg k3]
      by_cases k4 : qK G a = 4
      · rw [if_pos k4, if_neg (by omega)]
      · rw [if_neg k4]
        by_cases o4 : oN G a (qE G) = 4
        · rw [if_pos o4, if_neg (by omega)]
        · rw [if_neg o4, if_pos ⟨hE2, by omega, by omega⟩]
          simp (disch := omega) only [g2, gd_nI, nI_clamp, hl, gI_ne, b_nar, l1, nIadd, gI_eq, nI_sub, Nat.add_sub_cancel]
  · rw [if_pos (by show nI (qE G) = nI 40; rw [nI_inj (by omega) (by omega)]; omega), if_neg (by omega)]
