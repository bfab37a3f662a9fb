theorem rG_crA (a : Rt) (s : Int64) (e : Nat) : rG (crA a s e) = rG a ∧ rD (crA a s e) = rD a ∧ rGp (crA a s e) = rGp a := by
  unfold crA
  split <;> exact ⟨rfl, rfl, rfl⟩
theorem c_cross {nr e : Nat} {ρ : Nat → Rt} {w : Wk} {H : Hp} (h : T8 nr ρ w H) (hF0 : 0 < wF w) (hF : wF w ≤ 30) (hr : wR w (wF w - 1) < nr) (hd : rD (ρ (wR w (wF w - 1))) = true) (he : e < qE (rG (ρ (wR w (wF w - 1))))) : ok (f_X6_cross (wR w (wF w - 1)) (nI e) H) (fun _ H' => T8 nr (crR ρ w e) (crW ρ w e) H') := by
  generalize hrr : wR w (wF w - 1) = r at hr hd he
  obtain ⟨p1, c1⟩ := h.2.1 r hr
  have hB := p1.1.1
  have hE := p1.1.2.1
  have wf := p1.1.2.2.2.1 e he
  obtain ⟨k1, k2, k3, k4, k5⟩ := id h.2.2
  obtain ⟨m, hm⟩ : ∃ m, wF w = m + 1 := ⟨wF w - 1, by omega⟩
  have hm1 : wF w - 1 = m := by omega
  have g9 := c1.2.1.2.2.2.2.2.2.2.2.1 e he
  unfold f_X6_cross crR crW
  rw [hm1] at hrr ⊢
  rw [hrr]
  simp (disch := omega) only [n_eqN, l1, n_neg, if_false, k1, nI_le_iff, if_pos, vl, nI_sub, hm1, gd_nI, nI_clamp, g9]
  refine ok_b (c_gone h hr hd he) ?_
  rintro v H1 ⟨rfl, h1⟩
  have hu : upR ρ r (setLg (ρ r) (goL (ρ r) e)) r = setLg (ρ r) (goL (ρ r) e) := upR_eq _ _ _
  obtain ⟨p2, c2⟩ := h1.2.1 r hr
  rw [hu] at p2 c2
  obtain ⟨n1, n2, n3, n4, n5⟩ := id h1.2.2
  obtain ⟨f1, f2, f3, f4, f5, f6, f7⟩ := c2.2.2.2.2 hd
  have a21 := f2.2.2.1 e he
  have a16 := c2.2.1.2.2.2.2.2.2.2.2.2.2 e he
  have a19 := f2.2.1 (qT (rG (ρ r)) e) wf.2.1
  have s6 := (n5 m (by omega)).2.2
  simp only [hl_e]
  have q2 : Ch TT LWK H1 (sJ (sI H1 1 2 6 (gI H 1 2 6 + bI (!(tb (rGp (ρ r)) e)))) 1 6 m (wS w m + lN (aD (rG (ρ r)) e))) := Ch.sJ rfl rfl (Ch.sI rfl rfl (Ch.rf H1))
  have e1 : gJ (sI H1 1 2 6 (gI H 1 2 6 + bI (!(tb (rGp (ρ r)) e)))) 1 6 m = wS w m := by rw [gJ_sI]; exact s6
  have e2 : gJ (sI H1 1 2 6 (gI H 1 2 6 + bI (!(tb (rGp (ρ r)) e)))) (r + 2) 21 e = lN (aD (rG (ρ r)) e) := by rw [gJ_sI]; exact a21
  simp (disch := omega) only [gd_nI, nI_clamp, e1, e2]
  have h2 : T8 nr (upR ρ r (setLg (ρ r) (goL (ρ r) e))) (wF w, wR w, wB w, upJ (wS w) m (wS w m + lN (aD (rG (ρ r)) e)), wT w, wN w, wP w + bI (!(tb (rGp (ρ r)) e))) (sJ (sI H1 1 2 6 (gI H 1 2 6 + bI (!(tb (rGp (ρ r)) e)))) 1 6 m (wS w m + lN (aD (rG (ρ r)) e))) := by
    refine T8_w h1 q2 ⟨?_, ?_, ?_, ?_, fun f hf => ?_⟩
    · rw [gI_sJ, gI_ne (by omega)]; exact n1
    · rw [gI_sJ, gI_ne (by omega)]; exact n2
    · rw [gI_sJ, gI_ne (by omega)]; exact n3
    · rw [gI_sJ, gI_eq, k4]; rfl
    · show gR _ 1 4 f = some (wR w f) ∧ gI _ 1 5 f = nI (wB w f) ∧ gJ _ 1 6 f = upJ (wS w) m (wS w m + lN (aD (rG (ρ r)) e)) f
      obtain ⟨v1, v2, v3⟩ := n5 f hf
      refine ⟨by rw [gR_sJ, gR_sI]; exact v1, by rw [gI_sJ, gI_ne (by omega)]; exact v2, ?_⟩
      rw [gJ_sJ]
      by_cases z : f = m
      · rw [if_pos ⟨rfl, rfl, z⟩, z, upJ_eq]
      · rw [if_neg (fun u => z u.2.2), upJ_ne z, gJ_sI]; exact v3
  have e16 : gI (sJ (sI H1 1 2 6 (gI H 1 2 6 + bI (!(tb (rGp (ρ r)) e)))) 1 6 m (wS w m + lN (aD (rG (ρ r)) e))) (r + 2) 16 e = bI (qW (rG (ρ r)) e) := by rw [gI_sJ, gI_ne (by omega)]; exact a16
  have e6 : gJ (sJ (sI H1 1 2 6 (gI H 1 2 6 + bI (!(tb (rGp (ρ r)) e)))) 1 6 m (wS w m + lN (aD (rG (ρ r)) e))) 1 6 m = wS w m + lN (aD (rG (ρ r)) e) := gJ_eq _ _ _ _ _
  generalize sJ (sI H1 1 2 6 (gI H 1 2 6 + bI (!(tb (rGp (ρ r)) e)))) 1 6 m (wS w m + lN (aD (rG (ρ r)) e)) = H2 at h2 e16 e6 ⊢
  simp only [e16, l0, b_eq0]
  obtain ⟨o1, o2, o3, o4, o5⟩ := id h2.2.2
  cases hw : qW (rG (ρ r)) e with
  | false =>
    rw [if_pos rfl]
    have ea : crA (ρ r) (wS w m + lN (aD (rG (ρ r)) e)) e = setLg (ρ r) (goL (ρ r) e) := by unfold crA; rw [if_neg (bf_ne hw)]
    rw [ea]
    refine ok_s (T8_w h2 (Ch.sI rfl rfl (Ch.rf _)) ⟨?_, ?_, ?_, ?_, fun f hf => ?_⟩)
    · rw [gI_ne (by omega)]; exact o1
    · rw [gI_ne (by omega)]; exact o2
    · rw [gI_ne (by omega)]; exact o3
    · rw [gI_ne (by omega)]; exact o4
    · obtain ⟨v1, v2, v3⟩ := o5 f hf
      have v2' : gI H2 1 5 f = nI (wB w f) := v2
      have v3' : gJ H2 1 6 f = upJ (wS w) m (wS w m + lN (aD (rG (ρ r)) e)) f := v3
      show gR _ 1 4 f = some (wR w f) ∧ gI _ 1 5 f = nI (upN (wB w) m (qT (rG (ρ r)) e) f) ∧ gJ _ 1 6 f = upJ (wS w) m (if false = true then bsV (rG (ρ r)) (qT (rG (ρ r)) e) else wS w m + lN (aD (rG (ρ r)) e)) f
      refine ⟨by rw [gR_sI]; exact v1, ?_, by rw [gJ_sI]; exact v3'⟩
      rw [gI_sI]
      by_cases z : f = m
      · rw [if_pos ⟨rfl, rfl, z⟩, z, upN_eq]
      · rw [if_neg (fun u => z u.2.2), upN_ne z]; exact v2'
  | true =>
    rw [if_neg (by decide), e6]
    have ea : crA (ρ r) (wS w m + lN (aD (rG (ρ r)) e)) e = setT (setLg (ρ r) (goL (ρ r) e)) (cntTb (rtb (ρ r)) (wS w m + lN (aD (rG (ρ r)) e))) := by unfold crA; rw [if_pos hw]
    rw [ea]
    refine ok_b (cT_count (r := r) h2 hr (by rw [hu]; exact hd)) ?_
    rintro _ H3 h3
    rw [hu, upR_up] at h3
    have h3' : T8 nr (upR ρ r (setT (setLg (ρ r) (goL (ρ r) e)) (cntTb (rtb (ρ r)) (wS w m + lN (aD (rG (ρ r)) e))))) (wF w, wR w, wB w, upJ (wS w) m (wS w m + lN (aD (rG (ρ r)) e)), wT w, wN w, wP w + bI (!(tb (rGp (ρ r)) e))) H3 := h3
    obtain ⟨x1, x2, x3, x4, x5⟩ := id h3'.2.2
    have c3 := (h3'.2.1 r hr).2
    rw [upR_eq] at c3
    have b19 : gJ H3 (r + 2) 19 (qT (rG (ρ r)) e) = bsV (rG (ρ r)) (qT (rG (ρ r)) e) := (c3.2.2.2.2 hd).2.1.2.1 (qT (rG (ρ r)) e) wf.2.1
    simp (disch := omega) only [gd_nI, nI_clamp, hl, b19]
    refine ok_s (T8_w h3' (Ch.sI rfl rfl (Ch.sJ rfl rfl (Ch.rf _))) ⟨?_, ?_, ?_, ?_, fun f hf => ?_⟩)
    · rw [gI_ne (by omega), gI_sJ]; exact x1
    · rw [gI_ne (by omega), gI_sJ]; exact x2
    · rw [gI_ne (by omega), gI_sJ]; exact x3
    · rw [gI_ne (by omega), gI_sJ]; exact x4
    · obtain ⟨v1, v2, v3⟩ := x5 f hf
      have v2' : gI H3 1 5 f = nI (wB w f) := v2
      have v3' : gJ H3 1 6 f = upJ (wS w) m (wS w m + lN (aD (rG (ρ r)) e)) f := v3
      show gR _ 1 4 f = some (wR w f) ∧ gI _ 1 5 f = nI (upN (wB w) m (qT (rG (ρ r)) e) f) ∧ gJ _ 1 6 f = upJ (wS w) m (if true = true then bsV (rG (ρ r)) (qT (rG (ρ r)) e) else wS w m + lN (aD (rG (ρ r)) e)) f
      rw [if_pos rfl]
      refine ⟨by rw [gR_sI, gR_sJ]; exact v1, ?_, ?_⟩
      · rw [gI_sI]
        by_cases z : f = m
        · rw [if_pos ⟨rfl, rfl, z⟩, z, upN_eq]
        · rw [if_neg (fun u => z u.2.2), upN_ne z, gI_sJ]; exact v2'
      · rw [gJ_sI, gJ_sJ]
        by_cases z : f = m
        · rw [if_pos ⟨rfl, rfl, z⟩, z, upJ_eq]
        · rw [if_neg (fun u => z u.2.2), upJ_ne z, v3', upJ_ne z]
/-- the reference finds the edge -/
theorem x9_goes_23 {r b k e f : Nat} {b3 : Int32} {G : Gr} {H : Hp} {kk : Int32 → Hp → Option (Unit × Hp)} {Q : Unit → Hp → Prop} (h : MG r G H) (w : WG G) (hr : r < 8) (hf : f < 30) (hb : gI H 0 32 f = nI b) (hbB : b < qB G) (he : e < qE G) (hFe : qF G e = b) (hoe : oN G b e = k) (K : ok (kk (nI (40 * r + e)) H) Q) : ok (L_X9_goes_23 (nI f) b3 kk FU (nI (40 * r)) (nI k) H) Q := by
  have hB := w.1
  have hE := w.2.1
  have hk : k ≤ 40 := by rw [← hoe]; have := cntP_le (fun e => decide (qF G e = b)) e; show oN G b e ≤ 40; unfold oN; omega
  refine ok_w2 (fun d x y H' => H' = H ∧ ∃ i, i + d = e ∧ x = nI (40 * r + i) ∧ y = nI (k - oN G b i)) ?_ (d := e) ⟨rfl, 0, by omega, rfl, rfl⟩ (FUgt (by omega))
  rintro d n x y H1 ⟨rfl, i, hi, rfl, rfl⟩ K1
  have wfi := w.2.2.2.1 i (by omega)
  have g5 := h.2.2.2.2.1 i (by omega)
  have hmono : oN G b i ≤ k := by rw [← hoe]; exact cntP_mono _ (by omega)
  rw [L_X9_goes_23]
  by_cases hFi : qF G i = b
  · by_cases hd : d = 0
    · have : i = e := by omega
      subst this
      simp (disch := omega) only [gd_nI, nI_clamp, g5, hb, nI_inj, if_pos, jn, l0, nI_le_iff]
      exact K
    · have hlt : oN G b i < k := by rw [← hoe]; exact cntP_lt (by omega) (decide_eq_true hFi)
      have hs := oN_s hFi
      simp (disch := omega) only [gd_nI, nI_clamp, g5, hb, nI_inj, if_pos, jn, l0, nI_le_iff, if_neg, l1, nI_sub, vl, nIadd]
      exact K1 (d - 1) _ _ _ (by omega) ⟨rfl, i + 1, by omega, rfl, by rw [hs]; congr 1⟩
  · have hd : d ≠ 0 := by
      intro z
      have : i = e := by omega
      rw [this] at hFi; exact hFi hFe
    have hs : oN G b (i + 1) = oN G b i := by
      show cntP (fun e => decide (qF G e = b)) (i + 1) = _
      rw [cntP_s, if_neg (fun z => hFi (of_decide_eq_true z))]; rfl
    simp (disch := omega) only [gd_nI, nI_clamp, g5, hb, nI_inj, jn, if_neg, l0, l1, nI_sub, Nat.sub_zero, vl, nIadd]
    exact K1 (d - 1) _ _ _ (by omega) ⟨rfl, i + 1, by omega, rfl, by rw [hs]⟩
