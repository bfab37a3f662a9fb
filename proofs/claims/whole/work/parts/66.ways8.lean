/-- longs -/
theorem c_eq (x y : Int64) : (lg_cmp x y = nI 0) = (x = y) := propext (lg_cmp_eq x y)
theorem c_lt (x y : Int64) : (lg_cmp x y < nI 0) = (x < y) := propext (lg_cmp_lt x y)
theorem c_le (x y : Int64) : (lg_cmp x y ≤ nI 0) = (x ≤ y) := propext (lg_cmp_le x y)
theorem c_ge (x y : Int64) : (nI 0 ≤ lg_cmp x y) = (y ≤ x) := propext (lg_cmp_ge x y)
theorem c_gt (x y : Int64) : (nI 0 < lg_cmp x y) = (y < x) := propext (lg_cmp_gt x y)
theorem k0 : (0 : Int64) = lN 0 := rfl
theorem k1 : (1 : Int64) = lN 1 := rfl
theorem k12 : (1000000000000 : Int64) = lN 1000000000000 := rfl
theorem j_int {n : Nat} (h : n < 2 ^ 63) : (lN n).toInt = (n : Int) := lg_ofNat_toInt h
theorem j_le {a b : Nat} (ha : a < 2 ^ 63) (hb : b < 2 ^ 63) : lN a ≤ lN b ↔ a ≤ b := by
  rw [Int64.le_iff_toInt_le, j_int ha, j_int hb]; omega
theorem j_lt {a b : Nat} (ha : a < 2 ^ 63) (hb : b < 2 ^ 63) : lN a < lN b ↔ a < b := by
  rw [Int64.lt_iff_toInt_lt, j_int ha, j_int hb]; omega
theorem j_eq {a b : Nat} (ha : a < 2 ^ 63) (hb : b < 2 ^ 63) : lN a = lN b ↔ a = b := by
  constructor
  · intro h
    have h1 := j_int ha
    rw [h, j_int hb] at h1
    omega
  · intro h; rw [h]
theorem j_m1 {a : Nat} (ha : a < 2 ^ 63) : (lN a = -1) = False := by
  apply eq_false
  intro h
  have h1 := j_int ha
  rw [h] at h1
  have h2 : (-1 : Int64).toInt = -1 := by decide
  omega
/-- the k-th edge out of a block -/
theorem no_out {G : Gr} {b m m' : Nat} (h : oN G b m = oN G b m') {e : Nat} (h1 : m ≤ e) (h2 : e < m') : qF G e ≠ b := by
  intro hf
  have h3 : oN G b m ≤ oN G b e := cntP_mono _ h1
  have h4 : oN G b e < oN G b m' := cntP_lt h2 (decide_eq_true hf)
  omega
theorem adS_eq0 {G : Gr} {n : Nat → Nat} {b m d : Nat} (h : oN G b m = oN G b (m + d)) : adS G n b m = adS G n b (m + d) := by
  induction d with
  | zero => rfl
  | succ d ih =>
    have h1 : oN G b m ≤ oN G b (m + d) := cntP_mono _ (by omega)
    have h2 : oN G b (m + d) ≤ oN G b (m + (d + 1)) := cntP_mono _ (by omega)
    rw [ih (by omega)]
    have h3 := no_out h (e := m + d) (by omega) (by omega)
    show _ = adS G n b (m + d) + (if qF G (m + d) = b then bey G n (m + d) else 0)
    rw [if_neg h3]; rfl
theorem adS_eq {G : Gr} {n : Nat → Nat} {b m m' : Nat} (h : oN G b m = oN G b m') : adS G n b m = adS G n b m' := by
  rcases Nat.le_total m m' with q | q
  · have := adS_eq0 (n := n) (d := m' - m) (show oN G b m = oN G b (m + (m' - m)) by rw [show m + (m' - m) = m' by omega]; exact h)
    rw [show m + (m' - m) = m' by omega] at this
    exact this
  · have := adS_eq0 (n := n) (d := m - m') (show oN G b m' = oN G b (m' + (m - m')) by rw [show m' + (m - m') = m by omega]; exact h.symm)
    rw [show m' + (m - m') = m by omega] at this
    exact this.symm
theorem rdy_eq {G : Gr} {n : Nat → Nat} {b m m' : Nat} (h : oN G b m = oN G b m') (hr : rdy G n b m = true) : rdy G n b m' = true := by
  rw [rdy_iff] at hr ⊢
  intro e he hf
  by_cases q : e < m
  · exact hr e q hf
  · exact absurd hf (no_out h (by omega) he)
theorem adS_s {G : Gr} {n : Nat → Nat} {b e : Nat} (h : qF G e = b) : adS G n b (e + 1) = adS G n b e + bey G n e := by
  show adS G n b e + (if qF G e = b then bey G n e else 0) = _
  rw [if_pos h]
theorem oN_s {G : Gr} {b e : Nat} (h : qF G e = b) : oN G b (e + 1) = oN G b e + 1 := by
  unfold oN
  rw [cntP_s, if_pos (decide_eq_true h)]
theorem out_get {r : Nat} {G : Gr} {H : Hp} (h : CG r G H) {b k : Nat} (hk : k < oN G b (qE G)) : ∃ e, e < qE G ∧ qF G e = b ∧ oN G b e = k ∧ gI H (r + 2) 12 (b * 4 + k) = nI e := by
  obtain ⟨e, h1, h2, h3⟩ := cntP_ex hk
  have h4 : qF G e = b := of_decide_eq_true h2
  refine ⟨e, h1, h4, h3, ?_⟩
  have := h.2.2.2.2.2.2.1 e h1
  rw [h4] at this
  rw [← this, Nat.mul_comm b 4]
  rw [show oN G b e = k from h3]
theorem x7_beyond {r e : Nat} {G : Gr} {H : Hp} {n : Nat → Nat} (h : CG r G H) (w : WG G) (hn : ∀ b, b < qB G → gJ H (r + 2) 18 b = lN (n b)) (he : e < qE G) : f_X7_countBeyond r (nI e) H = some (lN (bey G n e), H) := by
  have hE := w.2.1
  have hB := w.1
  have wf := w.2.2.2.1 e he
  obtain ⟨a1, a2, -, -, -, -, -, a8, a9, -, a11⟩ := id h
  unfold f_X7_countBeyond bey
  simp (disch := omega) only [gd_nI, nI_clamp, a11, a9, hn, l0, b_eq0]
  cases qW G e with
  | false => rfl
  | true => rfl
theorem x7_countFrom {r b : Nat} {G : Gr} {H : Hp} {n : Nat → Nat} (h : CG r G H) (w : WG G) (hn : ∀ b, b < qB G → gJ H (r + 2) 18 b = lN (n b)) (hl : ∀ b, b < qB G → n b ≤ 1099511627776) (hb : b < qB G) : f_X7_countFrom r (nI b) H = some (lN (cf G n b), H) := by
  have hE := w.2.1
  have hB := w.1
  obtain ⟨a1, a2, a3, a4, a5, a6, a7, a8, a9, a10, a11⟩ := id h
  unfold f_X7_countFrom
  simp only [x3_ends h w hb, bnd_s, l0, b_eq0]
  by_cases k3 : 3 ≤ qK G b
  · rw [if_neg (by simp [k3])]
    unfold cf
    rw [if_pos k3]; rfl
  · rw [if_pos (by simp [k3])]
    suffices hs : ok (L_X7_countFrom_18 r (nI b) (fun (z10 : Int64) (H11 : Hp) => some (z10, H11)) FU 0 (nI 0) H) (fun v H' => v = lN (cf G n b) ∧ H' = H) by
      obtain ⟨v, H', e, rfl, rfl⟩ := hs
      exact e
    have ho := w.2.2.2.2.1 b hb
    refine ok_g2 (oN G b (qE G)) (fun k x H' => H' = H ∧ ∃ m, m ≤ qE G ∧ oN G b m = k ∧ rdy G n b m = true ∧ x = lN (adS G n b m)) ?_ ?_ rfl ⟨rfl, 0, Nat.zero_le _, rfl, rfl, rfl⟩ (FUgt (by omega))
    · rintro k nn x H1 hk ⟨rfl, m, hm, hmk, hr, rfl⟩ K1
      obtain ⟨e, he, hf, hoe, hg⟩ := out_get h hk
      have hbd : bey G n e ≤ 1099511627776 := by
        unfold bey; split
        · decide
        · exact hl _ (w.2.2.2.1 e he).2.1
      rw [L_X7_countFrom_18]
      simp (disch := omega) only [gd_nI, nI_clamp, a5, nI_le_iff, if_neg, l4, nImul, nIadd, hg, x7_beyond h w hn he, bnd_s, c_eq, k0, l0, j_eq, vl, lN_add, l1]
      have er : rdy G n b e = true := rdy_eq (by omega) hr
      refine ok_if (fun hc => ok_s ⟨?_, rfl⟩) (fun hc => K1 _ _ ⟨rfl, e + 1, he, ?_, ?_, ?_⟩)
      · unfold cf
        rw [if_neg k3, if_neg]
        intro q
        exact rdy_iff.mp q e he hf hc
      · rw [oN_s hf, hoe]
      · rw [rdy_iff] at er ⊢
        intro f hf1 hf2
        by_cases q : f = e
        · subst q; exact hc
        · exact er f (by omega) hf2
      · rw [adS_s hf, adS_eq (n := n) (show oN G b m = oN G b e by omega)]
    · rintro nn x H1 ⟨rfl, m, hm, hmk, hr, rfl⟩
      rw [L_X7_countFrom_18]
      simp (disch := omega) only [gd_nI, nI_clamp, a5, nI_le_iff, if_pos]
      refine ok_s ⟨?_, rfl⟩
      unfold cf
      rw [if_neg k3, if_pos (rdy_eq hmk hr), adS_eq hmk]
theorem x7_pass {r : Nat} {b1 : Int32} {G : Gr} {H : Hp} {p : Nat} {k : Hp → Option (Int32 × Hp)} {Q : Int32 → Hp → Prop} (h : CG r G H) (w : WG G) (hn : ∀ b, b < qB G → gJ H (r + 2) 18 b = lN (npi G p b)) (K : ∀ H', Ch TT [(2, 18, none)] H H' → (∀ b, b < qB G → gJ H' (r + 2) 18 b = lN (npi G (p + 1) b)) → ok (k H') Q) : ok (L_X7_countFromBlocks_41 r b1 k FU 0 H) Q := by
  have hB := w.1
  refine ok_g1 (qB G) (fun x H' => Ch TT [(2, 18, none)] H H' ∧ ∀ b, b < qB G → gJ H' (r + 2) 18 b = lN (psn G (npi G p) x b)) ?_ ?_ rfl ⟨Ch.rf H, hn⟩ (FUgt (by omega))
  · intro x n H1 hx ⟨hC, hI⟩ K1
    have hG := CG_ch h hC rfl
    obtain ⟨a1, -⟩ := id hG
    rw [L_X7_countFromBlocks_41]
    simp (disch := omega) only [a1, nI_le_iff, if_neg, x7_countFrom hG w hI (fun b hb => psn_lt w p (by omega) hb) hx, bnd_s, gd_nI, nI_clamp, hl, vl, l1, nIadd]
    refine K1 _ ⟨?_, fun b hb => ?_⟩
    · exact Ch.sJ rfl rfl hC
    · rw [gJ_sJ, psn_s]
      by_cases q : b = x
      · rw [if_pos ⟨rfl, rfl, q⟩, if_pos q]
      · rw [if_neg (fun z => q z.2.2), if_neg q]; exact hI b hb
  · intro n H1 ⟨hC, hI⟩
    obtain ⟨a1, -⟩ := CG_ch h hC rfl
    rw [L_X7_countFromBlocks_41]
    simp (disch := omega) only [a1, nI_le_iff, if_pos]
    exact K _ hC hI
def nzB (G : Gr) : Bool := allB (fun b => !(decide (nW G b = 0))) (qB G)
theorem x7_fromBlocks {r : Nat} {G : Gr} {H : Hp} (h : CG r G H) (w : WG G) : ok (f_X7_countFromBlocks r H) (fun v H' => v = bI (nzB G) ∧ Ch TT [(2, 18, none)] H H' ∧ ∀ b, b < qB G → gJ H' (r + 2) 18 b = lN (nW G b)) := by
  have hB := w.1
  unfold f_X7_countFromBlocks
  refine ok_g1 (qB G) (fun x H' => Ch TT [(2, 18, none)] H H' ∧ ∀ b, b < x → gJ H' (r + 2) 18 b = lN (npi G 0 b)) ?_ ?_ rfl ⟨Ch.rf H, fun b hb => absurd hb (Nat.not_lt_zero _)⟩ (FUgt (by omega))
  · intro x n H1 hx ⟨hC, hI⟩ K1
    obtain ⟨a1, -⟩ := CG_ch h hC rfl
    rw [L_X7_countFromBlocks_2]
    simp (disch := omega) only [a1, nI_le_iff, if_neg, gd_nI, nI_clamp, hl, vl, l1, nIadd]
    refine K1 _ ⟨?_, fun b hb => ?_⟩
    · exact Ch.sJ rfl rfl hC
    · rw [gJ_sJ]
      by_cases q : b = x
      · rw [if_pos ⟨rfl, rfl, q⟩]; rfl
      · rw [if_neg (fun z => q z.2.2)]; exact hI b (by omega)
  · intro n H1 ⟨hC, hI⟩
    obtain ⟨a1, -⟩ := CG_ch h hC rfl
    rw [L_X7_countFromBlocks_2]
    simp (disch := omega) only [a1, nI_le_iff, if_pos]
    refine ok_g1 (qB G) (fun p H' => Ch TT [(2, 18, none)] H H' ∧ ∀ b, b < qB G → gJ H' (r + 2) 18 b = lN (npi G p b)) ?_ ?_ rfl ⟨hC, hI⟩ (FUgt (by omega))
    · intro p n H2 hp ⟨hC2, hI2⟩ K2
      have hG := CG_ch h hC2 rfl
      obtain ⟨b1, -⟩ := id hG
      rw [L_X7_countFromBlocks_28]
      simp (disch := omega) only [b1, nI_le_iff, if_neg, vl, l1, nIadd]
      exact x7_pass hG w hI2 (fun H3 hC3 hI3 => K2 _ ⟨Ch.tr (fun _ q => q) rfl hC2 hC3, hI3⟩)
    · intro n H2 ⟨hC2, hI2⟩
      obtain ⟨b1, -⟩ := CG_ch h hC2 rfl
      rw [L_X7_countFromBlocks_28]
      simp (disch := omega) only [b1, nI_le_iff, if_pos]
      refine ok_g1 (qB G) (fun p H' => H' = H2 ∧ ∀ b, b < p → (!(decide (nW G b = 0))) = true) ?_ ?_ rfl ⟨rfl, fun b hb => absurd hb (Nat.not_lt_zero _)⟩ (FUgt (by omega))
      · rintro p n H3 hp ⟨rfl, hI3⟩ K3
        have hN : gJ H3 (r + 2) 18 p = lN (nW G p) := hI2 p hp
        have hlt := nW_lt w hp
        rw [L_X7_countFromBlocks_77]
        simp (disch := omega) only [b1, nI_le_iff, if_neg, gd_nI, nI_clamp, hN, c_eq, k0, j_eq, vl, l0, l1, nIadd]
        refine ok_if (fun hc => ok_s ⟨?_, hC2, hI2⟩) (fun hc => K3 _ ⟨rfl, fun b hb => ?_⟩)
        · unfold nzB; rw [allB_f hp (by simp [hc])]; rfl
        · by_cases q : b = p
          · subst q; simp [hc]
          · exact hI3 b (by omega)
      · rintro n H3 ⟨rfl, hI3⟩
        rw [L_X7_countFromBlocks_77]
        simp (disch := omega) only [b1, nI_le_iff, if_pos]
        refine ok_s ⟨?_, hC2, hI2⟩
        unfold nzB; rw [allB_iff.mpr hI3]; rfl
theorem x7_sumAdds {r : Nat} {G : Gr} {H : Hp} (h : CG r G H) (w : WG G) (hn : ∀ b, b < qB G → gJ H (r + 2) 18 b = lN (nW G b)) : ok (f_X7_sumAdds r H) (fun _ H' => Ch TT [(2, 21, none)] H H' ∧ ∀ e, e < qE G → gJ H' (r + 2) 21 e = lN (aD G e)) := by
  have hB := w.1
  have hE := w.2.1
  unfold f_X7_sumAdds
  refine ok_g1 (qB G) (fun x H' => Ch TT [(2, 21, none)] H H' ∧ ∀ e, e < qE G → qF G e < x → gJ H' (r + 2) 21 e = lN (aD G e)) ?_ ?_ rfl ⟨Ch.rf H, fun e _ he => absurd he (Nat.not_lt_zero _)⟩ (FUgt (by omega))
  · intro b n H1 hb ⟨hC, hI⟩ K1
    have hG := CG_ch h hC rfl
    obtain ⟨a1, -⟩ := id hG
    have ho := w.2.2.2.2.1 b hb
    rw [L_X7_sumAdds_2]
    simp (disch := omega) only [a1, nI_le_iff, if_neg, vl, l1, nIadd]
    refine ok_g2 (oN G b (qE G)) (fun k x H' => Ch TT [(2, 21, none)] H H' ∧ (∀ e, e < qE G → (qF G e < b ∨ qF G e = b ∧ oN G b e < k) → gJ H' (r + 2) 21 e = lN (aD G e)) ∧ ∃ m, m ≤ qE G ∧ oN G b m = k ∧ x = lN (adS G (nW G) b m)) ?_ ?_ rfl ⟨hC, fun e he q => q.elim (fun z => hI e he z) (fun z => absurd z.2 (Nat.not_lt_zero _)), 0, Nat.zero_le _, rfl, rfl⟩ (FUgt (by omega))
    · rintro k nn x H2 hk ⟨hC2, hI2, m, hm, hmk, rfl⟩ K2
      have hG2 := CG_ch h hC2 rfl
      obtain ⟨b1, -, -, -, b5, -⟩ := id hG2
      obtain ⟨e, he, hf, hoe, hg⟩ := out_get hG2 hk
      have hC3 : Ch TT [(2, 21, none)] H (sJ H2 (r + 2) 21 e (lN (adS G (nW G) b m))) := Ch.sJ rfl rfl hC2
      rw [L_X7_sumAdds_18]
      simp (disch := omega) only [gd_nI, nI_clamp, b5, nI_le_iff, if_neg, l4, nImul, nIadd, hg, vl, hl]
      have hn4 : ∀ c, c < qB G → gJ (sJ H2 (r + 2) 21 e (lN (adS G (nW G) b m))) (r + 2) 18 c = lN (nW G c) := fun c hc => by
        rw [hC3.gj _ _ _ rfl]; exact hn c hc
      rw [x7_beyond (CG_ch h hC3 rfl) w hn4 he, bnd_s]
      simp only [lN_add, l1, nIadd]
      refine K2 _ _ ⟨hC3, fun f hf1 hf2 => ?_, e + 1, he, ?_, ?_⟩
      · rw [gJ_sJ]
        by_cases q : f = e
        · subst q
          rw [if_pos ⟨rfl, rfl, rfl⟩]
          unfold aD
          rw [hf, adS_eq (n := nW G) (show oN G b m = oN G b f by omega)]
        · rw [if_neg (fun z => q z.2.2)]
          refine hI2 f hf1 (hf2.elim Or.inl (fun z => Or.inr ⟨z.1, ?_⟩))
          rcases Nat.lt_or_ge (oN G b f) k with u | u
          · exact u
          · exfalso
            exact q (cntP_un (P := fun e => decide (qF G e = b)) (decide_eq_true z.1) (decide_eq_true hf) (show oN G b f = oN G b e by omega))
      · rw [oN_s hf, hoe]
      · rw [adS_s hf, adS_eq (n := nW G) (show oN G b m = oN G b e by omega)]
    · rintro nn x H2 ⟨hC2, hI2, m, hm, hmk, rfl⟩
      have hG2 := CG_ch h hC2 rfl
      obtain ⟨b1, -, -, -, b5, -⟩ := id hG2
      rw [L_X7_sumAdds_18]
      simp (disch := omega) only [gd_nI, nI_clamp, b5, nI_le_iff, if_pos]
      refine K1 _ ⟨hC2, fun e he hf => hI2 e he ?_⟩
      by_cases q : qF G e = b
      · exact Or.inr ⟨q, cntP_lt he (decide_eq_true q)⟩
      · exact Or.inl (by omega)
  · intro n H1 ⟨hC, hI⟩
    obtain ⟨a1, -⟩ := CG_ch h hC rfl
    rw [L_X7_sumAdds_2]
    simp (disch := omega) only [a1, nI_le_iff, if_pos]
    exact ok_s ⟨hC, fun e he => hI e he (w.2.2.2.1 e he).1⟩
