theorem m_goes {nr e k : Nat} {ρ : Nat → Rt} {w : Wk} {H : Hp} (h : T9 nr ρ w H) (hF0 : 0 < wF w) (hF : wF w ≤ 30) (hr : wR w (wF w - 1) < nr) (hd : rD (ρ (wR w (wF w - 1))) = true) (hbB : wB w (wF w - 1) < qB (rG (ρ (wR w (wF w - 1))))) (he : e < qE (rG (ρ (wR w (wF w - 1))))) (hFe : qF (rG (ρ (wR w (wF w - 1)))) e = wB w (wF w - 1)) (hoe : oN (rG (ρ (wR w (wF w - 1)))) (wB w (wF w - 1)) e = k) : ok (f_X9_goes (nI k) H) (fun _ H' => T9 nr (crR ρ w e) (crW ρ w e) H') := by
  have h8 := h.1.1
  generalize hrr : wR w (wF w - 1) = r at hr hd he hbB hFe hoe
  obtain ⟨p1, c1⟩ := h.2.1 r hr
  have hB := p1.1.1
  have hE := p1.1.2.1
  have wf := p1.1.2.2.2.1 e he
  obtain ⟨k1, k2, k3, k4, k5⟩ := id h.2.2
  obtain ⟨m, hm⟩ : ∃ m, wF w = m + 1 := ⟨wF w - 1, by omega⟩
  have hm1 : wF w - 1 = m := by omega
  obtain ⟨u1, u2, u3⟩ := k5 m (by omega)
  unfold f_X9_goes crR crW
  rw [hm1] at hrr hbB hFe hoe ⊢
  rw [hrr] at u1 ⊢
  simp (disch := omega) only [l1, k1, vl, nI_sub, hm1, gd_nI, nI_clamp, u1, l40, nImul]
  refine x9_goes_23 c1.1 p1.1 (by omega) (by omega) u2 hbB he hFe hoe ?_
  obtain ⟨f1, f2, f3, f4⟩ := c1.2.2.2 hd
  have t22 := (f3.1 e (by omega)).1
  have t23 := (f3.1 e (by omega)).2
  have t11 := f2.1 e he
  simp (disch := omega) only [gd_nI, nI_clamp, jn, t22]
  rw [hl_e]
  have e11 : gI (sJ H 0 22 (40 * r + e) ((rlg (ρ r)).1 e + 1)) 0 11 (40 * r + e) = bI (!(tb (rGp (ρ r)) e)) := by rw [gI_sJ]; exact t11
  have e23 : gJ (sJ H 0 22 (40 * r + e) ((rlg (ρ r)).1 e + 1)) 0 23 (40 * r + e) = (rlg (ρ r)).2.1 e := by rw [gJ_ne (by omega)]; exact t23
  -- the log and the price
  have key : ∀ H1, T9 nr (upR ρ r (setLg (ρ r) (goL (ρ r) e))) (wF w, wR w, wB w, wS w, wT w, wN w, wP w + bI (!(tb (rGp (ρ r)) e))) H1 → ok (hl (sJ H1 0 33 m (gJ H1 0 33 m + gJ H1 0 17 (40 * r + e))) (fun H18 => hl (sI H18 0 32 m (gI H18 0 7 (40 * r + e))) (fun H19 => if gI H19 0 9 (40 * r + e) = 0 then some ((), H19) else bnd (f_X9_ends (nI r) (gJ H19 0 33 m) H19) (fun _ H21 => gd (20 * nI r + gI H21 0 7 (40 * r + e)) 160 (hl (sJ H21 0 33 m (gJ H21 0 16 (20 * nI r + gI H21 0 7 (40 * r + e)).toNatClampNeg)) (fun H23 => some ((), H23))))))) (fun _ H' => T9 nr (upR ρ r (crA (ρ r) (wS w m + lN (aD (rG (ρ r)) e)) e)) (wF w, wR w, upN (wB w) m (qT (rG (ρ r)) e), upJ (wS w) m (if qW (rG (ρ r)) e = true then bsV (rG (ρ r)) (qT (rG (ρ r)) e) else wS w m + lN (aD (rG (ρ r)) e)), wT w, wN w, wP w + bI (!(tb (rGp (ρ r)) e))) H') := by
    intro H1 h1
    have hu : upR ρ r (setLg (ρ r) (goL (ρ r) e)) r = setLg (ρ r) (goL (ρ r) e) := upR_eq _ _ _
    obtain ⟨p2, c2⟩ := h1.2.1 r hr
    rw [hu] at p2 c2
    obtain ⟨n1, n2, n3, n4, n5⟩ := id h1.2.2
    obtain ⟨q1, q2, q3, q4⟩ := c2.2.2.2 hd
    have a17 : gJ H1 0 17 (40 * r + e) = lN (aD (rG (ρ r)) e) := q1.2.2.1 e he
    have a7 : gI H1 0 7 (40 * r + e) = nI (qT (rG (ρ r)) e) := c2.1.2.2.2.2.2.1 e he
    have a9 : gI H1 0 9 (40 * r + e) = bI (qW (rG (ρ r)) e) := c2.1.2.2.2.2.2.2.2 e he
    have s33 : gJ H1 0 33 m = wS w m := (n5 m (by show m < wF w; omega)).2.2
    rw [s33, a17, hl_e]
    have e7 : gI (sJ H1 0 33 m (wS w m + lN (aD (rG (ρ r)) e))) 0 7 (40 * r + e) = nI (qT (rG (ρ r)) e) := by rw [gI_sJ]; exact a7
    rw [e7, hl_e]
    have qq : Ch TT LMK H1 (sI (sJ H1 0 33 m (wS w m + lN (aD (rG (ρ r)) e))) 0 32 m (nI (qT (rG (ρ r)) e))) := Ch.sI rfl rfl (Ch.sJ rfl rfl (Ch.rf H1))
    have h2 : T9 nr (upR ρ r (setLg (ρ r) (goL (ρ r) e))) (wF w, wR w, upN (wB w) m (qT (rG (ρ r)) e), upJ (wS w) m (wS w m + lN (aD (rG (ρ r)) e)), wT w, wN w, wP w + bI (!(tb (rGp (ρ r)) e))) (sI (sJ H1 0 33 m (wS w m + lN (aD (rG (ρ r)) e))) 0 32 m (nI (qT (rG (ρ r)) e))) := by
      refine T9_w h1 qq ⟨?_, ?_, ?_, ?_, fun f hf => ?_⟩
      · rw [gI_ne (by omega), gI_sJ]; exact n1
      · rw [gI_ne (by omega), gI_sJ]; exact n2
      · rw [gI_ne (by omega), gI_sJ]; exact n3
      · rw [gI_ne (by omega), gI_sJ]; exact n4
      · obtain ⟨v1, v2, v3⟩ := n5 f hf
        have v2' : gI H1 0 32 f = nI (wB w f) := v2
        have v3' : gJ H1 0 33 f = wS w f := v3
        show gI _ 0 31 f = nI (wR w f) ∧ gI _ 0 32 f = nI (upN (wB w) m (qT (rG (ρ r)) e) f) ∧ gJ _ 0 33 f = upJ (wS w) m (wS w m + lN (aD (rG (ρ r)) e)) f
        refine ⟨by rw [gI_ne (by omega), gI_sJ]; exact v1, ?_, ?_⟩
        · rw [gI_sI]
          by_cases z : f = m
          · rw [if_pos ⟨rfl, rfl, z⟩, z, upN_eq]
          · rw [if_neg (fun u => z u.2.2), upN_ne z, gI_sJ]; exact v2'
        · rw [gJ_sI, gJ_sJ]
          by_cases z : f = m
          · rw [if_pos ⟨rfl, rfl, z⟩, z, upJ_eq]
          · rw [if_neg (fun u => z u.2.2), upJ_ne z]; exact v3'
    have e9 : gI (sI (sJ H1 0 33 m (wS w m + lN (aD (rG (ρ r)) e))) 0 32 m (nI (qT (rG (ρ r)) e))) 0 9 (40 * r + e) = bI (qW (rG (ρ r)) e) := by rw [gI_ne (by omega), gI_sJ]; exact a9
    have e33 : gJ (sI (sJ H1 0 33 m (wS w m + lN (aD (rG (ρ r)) e))) 0 32 m (nI (qT (rG (ρ r)) e))) 0 33 m = wS w m + lN (aD (rG (ρ r)) e) := by rw [gJ_sI, gJ_eq]
    generalize sI (sJ H1 0 33 m (wS w m + lN (aD (rG (ρ r)) e))) 0 32 m (nI (qT (rG (ρ r)) e)) = H2 at h2 e9 e33 ⊢
    rw [e9, e33]
    cases hw : qW (rG (ρ r)) e with
    | false =>
      rw [if_pos (show bI false = 0 from rfl)]
      have ea : crA (ρ r) (wS w m + lN (aD (rG (ρ r)) e)) e = setLg (ρ r) (goL (ρ r) e) := by unfold crA; rw [if_neg (bf_ne hw)]
      rw [ea]
      exact ok_s h2
    | true =>
      rw [if_neg (by decide)]
      have ea : crA (ρ r) (wS w m + lN (aD (rG (ρ r)) e)) e = setT (setLg (ρ r) (goL (ρ r) e)) (cntTb (rtb (ρ r)) (wS w m + lN (aD (rG (ρ r)) e))) := by unfold crA; rw [if_pos hw]
      rw [ea]
      refine ok_b (mT_ends (r := r) h2 hr (by rw [hu]; exact hd)) ?_
      rintro _ H3 h3
      rw [hu, upR_up] at h3
      have h3' : T9 nr (upR ρ r (setT (setLg (ρ r) (goL (ρ r) e)) (cntTb (rtb (ρ r)) (wS w m + lN (aD (rG (ρ r)) e))))) (wF w, wR w, upN (wB w) m (qT (rG (ρ r)) e), upJ (wS w) m (wS w m + lN (aD (rG (ρ r)) e)), wT w, wN w, wP w + bI (!(tb (rGp (ρ r)) e))) H3 := h3
      obtain ⟨x1, x2, x3, x4, x5⟩ := id h3'.2.2
      have c3 := (h3'.2.1 r hr).2
      rw [upR_eq] at c3
      have b7 : gI H3 0 7 (40 * r + e) = nI (qT (rG (ρ r)) e) := c3.1.2.2.2.2.2.1 e he
      have b16 : gJ H3 0 16 (20 * r + qT (rG (ρ r)) e) = bsV (rG (ρ r)) (qT (rG (ρ r)) e) := (c3.2.2.2 hd).1.2.1 (qT (rG (ρ r)) e) wf.2.1
      simp (disch := omega) only [b7, l20, nImul, nIadd, gd_nI, nI_clamp, hl, b16]
      refine ok_s (T9_w h3' (Ch.sJ rfl rfl (Ch.rf _)) ⟨?_, ?_, ?_, ?_, fun f hf => ?_⟩)
      · rw [gI_sJ]; exact x1
      · rw [gI_sJ]; exact x2
      · rw [gI_sJ]; exact x3
      · rw [gI_sJ]; exact x4
      · obtain ⟨v1, v2, v3⟩ := x5 f hf
        have v3' : gJ H3 0 33 f = upJ (wS w) m (wS w m + lN (aD (rG (ρ r)) e)) f := v3
        show gI _ 0 31 f = nI (wR w f) ∧ gI _ 0 32 f = nI (upN (wB w) m (qT (rG (ρ r)) e) f) ∧ gJ _ 0 33 f = upJ (wS w) m (if true = true then bsV (rG (ρ r)) (qT (rG (ρ r)) e) else wS w m + lN (aD (rG (ρ r)) e)) f
        rw [if_pos rfl]
        refine ⟨by rw [gI_sJ]; exact v1, by rw [gI_sJ]; exact v2, ?_⟩
        rw [gJ_sJ]
        by_cases z : f = m
        · rw [if_pos ⟨rfl, rfl, z⟩, z, upJ_eq]
        · rw [if_neg (fun u => z u.2.2), upJ_ne z, v3', upJ_ne z]
  rw [e11]
  cases ht : tb (rGp (ρ r)) e with
  | true =>
    rw [if_pos (show bI (!true) = 0 from rfl)]
    have q : Cr r LML H (sJ H 0 22 (40 * r + e) ((rlg (ρ r)).1 e + 1)) := Cr.sJ rfl (o40 (by omega)) (Cr.rf H)
    have hh : T9 nr (upR ρ r (setLg (ρ r) (goL (ρ r) e))) w (sJ H 0 22 (40 * r + e) ((rlg (ρ r)).1 e + 1)) := by
      refine T9_up h q rfl rfl (PR_L p1) (MR_log c1 q ⟨fun f hf => ?_, fun b hb => ?_, ?_⟩)
      · show gJ _ 0 22 (40 * r + f) = upJ (rlg (ρ r)).1 e ((rlg (ρ r)).1 e + 1) f ∧ gJ _ 0 23 (40 * r + f) = (if tb (rGp (ρ r)) e = true then (rlg (ρ r)).2.1 else upJ (rlg (ρ r)).2.1 e ((rlg (ρ r)).2.1 e + 1)) f
        rw [if_pos ht]
        by_cases z : f = e
        · rw [z, upJ_eq, gJ_eq, gJ_ne (by omega)]; exact ⟨rfl, t23⟩
        · rw [upJ_ne z, gJ_ne (by omega), gJ_ne (by omega)]; exact f3.1 f hf
      · rw [gJ_ne (by omega)]; exact f3.2.1 b hb
      · rw [gJ_ne (by omega)]; exact f3.2.2
    have k0 := key _ (T9_w hh (Ch.rf _) ⟨hh.2.2.1, hh.2.2.2.1, hh.2.2.2.2.1, by rw [hh.2.2.2.2.2.1, ht]; exact (Int32.add_zero _).symm, hh.2.2.2.2.2.2⟩)
    rw [ht] at k0
    exact k0
  | false =>
    rw [if_neg (by decide), e23, hl_e]
    have e30 : gI (sJ (sJ H 0 22 (40 * r + e) ((rlg (ρ r)).1 e + 1)) 0 23 (40 * r + e) ((rlg (ρ r)).2.1 e + 1)) 0 0 30 = wP w := by rw [gI_sJ, gI_sJ]; exact k4
    rw [e30, hl_e]
    have q : Cr r LML H (sJ (sJ H 0 22 (40 * r + e) ((rlg (ρ r)).1 e + 1)) 0 23 (40 * r + e) ((rlg (ρ r)).2.1 e + 1)) := Cr.sJ rfl (o40 (by omega)) (Cr.sJ rfl (o40 (by omega)) (Cr.rf H))
    have hh : T9 nr (upR ρ r (setLg (ρ r) (goL (ρ r) e))) w (sJ (sJ H 0 22 (40 * r + e) ((rlg (ρ r)).1 e + 1)) 0 23 (40 * r + e) ((rlg (ρ r)).2.1 e + 1)) := by
      refine T9_up h q rfl rfl (PR_L p1) (MR_log c1 q ⟨fun f hf => ?_, fun b hb => ?_, ?_⟩)
      · show gJ _ 0 22 (40 * r + f) = upJ (rlg (ρ r)).1 e ((rlg (ρ r)).1 e + 1) f ∧ gJ _ 0 23 (40 * r + f) = (if tb (rGp (ρ r)) e = true then (rlg (ρ r)).2.1 else upJ (rlg (ρ r)).2.1 e ((rlg (ρ r)).2.1 e + 1)) f
        rw [if_neg (bf_ne ht)]
        by_cases z : f = e
        · rw [z, upJ_eq, upJ_eq, gJ_ne (by omega), gJ_eq, gJ_eq]; exact ⟨rfl, rfl⟩
        · rw [upJ_ne z, upJ_ne z, gJ_ne (by omega), gJ_ne (by omega), gJ_ne (by omega), gJ_ne (by omega)]; exact f3.1 f hf
      · rw [gJ_ne (by omega), gJ_ne (by omega)]; exact f3.2.1 b hb
      · rw [gJ_ne (by omega), gJ_ne (by omega)]; exact f3.2.2
    have k0 := key (sI (sJ (sJ H 0 22 (40 * r + e) ((rlg (ρ r)).1 e + 1)) 0 23 (40 * r + e) ((rlg (ρ r)).2.1 e + 1)) 0 0 30 (wP w + 1)) (T9_w hh (Ch.sI rfl rfl (Ch.rf _)) ⟨by rw [gI_ne (by omega)]; exact hh.2.2.1, by rw [gI_ne (by omega)]; exact hh.2.2.2.1, by rw [gI_ne (by omega)]; exact hh.2.2.2.2.1, by rw [gI_eq, ht]; rfl, fun f hf => ⟨by rw [gI_ne (by omega)]; exact (hh.2.2.2.2.2.2 f hf).1, by rw [gI_ne (by omega)]; exact (hh.2.2.2.2.2.2 f hf).2.1, by rw [gJ_sI]; exact (hh.2.2.2.2.2.2 f hf).2.2⟩⟩)
    rw [ht] at k0
    exact k0
