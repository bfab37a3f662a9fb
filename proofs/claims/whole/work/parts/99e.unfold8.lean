theorem aD_lt {G : Gr} (w : WG G) {e : Nat} (he : e < qE G) : aD G e ≤ 4398046511104 := by
  have h1 : aD G e ≤ 4 * 4 ^ nzc G (nW G) := adS_bd w (npi_bd w _) (by omega) (w.2.2.2.1 e he).1
  have h2 := nzc_le w (nW G)
  omega
theorem j_m1lt {a : Nat} (ha : a < 2 ^ 63) : (lN a < -1) = False := by
  apply eq_false
  rw [Int64.lt_iff_toInt_lt, j_int ha]
  have h2 : (-1 : Int64).toInt = -1 := by decide
  omega
theorem x7_edgeFor {r b l : Nat} {G : Gr} {H : Hp} (h : CG r G H) (w : WG G) (hA : ∀ e, e < qE G → gJ H (r + 2) 21 e = lN (aD G e)) (hb : b < qB G) (hl : l < 2 ^ 62) : f_X7_edgeFor r (nI b) (lN l) H = some (eV (nxE G b l), H) := by
  have hB := w.1
  have hE := w.2.1
  have ho := w.2.2.2.2.1 b hb
  obtain ⟨g1, g2, g3, g4, g5, -⟩ := id h
  suffices hs : ok (f_X7_edgeFor r (nI b) (lN l) H) (fun v H' => v = eV (nxE G b l) ∧ H' = H) by
    obtain ⟨v, H', e, rfl, rfl⟩ := hs
    exact e
  unfold f_X7_edgeFor
  refine ok_g2 (oN G b (qE G)) (fun k x H' => H' = H ∧ ∃ m, m ≤ qE G ∧ oN G b m = k ∧ x = eV (bsE G b l m)) ?_ ?_ rfl ⟨rfl, 0, Nat.zero_le _, rfl, rfl⟩ (FUgt (by omega))
  · rintro k n x H1 hk ⟨rfl, m, hm, hmk, rfl⟩ K1
    obtain ⟨e, he, hf, hoe, hg⟩ := out_get h hk
    have ha := aD_lt w he
    rw [L_X7_edgeFor_6]
    simp (disch := omega) only [gd_nI, nI_clamp, g5, nI_le_iff, if_neg, l4, nImul, nIadd, hg, vl, hA, l0, c_gt, j_lt, l1]
    have hbe : bsE G b l m = bsE G b l e := bsE_eq (by omega)
    refine ok_if (fun hc => K1 _ _ ⟨rfl, e + 1, he, by rw [oN_s hf, hoe], ?_⟩) (fun hc => K1 _ _ ⟨rfl, e + 1, he, by rw [oN_s hf, hoe], ?_⟩)
    · rw [hbe]
      show eV (bsE G b l e) = eV (if qF G e = b ∧ aD G e ≤ l then some e else bsE G b l e)
      rw [if_neg (by omega)]
    · show nI e = eV (if qF G e = b ∧ aD G e ≤ l then some e else bsE G b l e)
      rw [if_pos ⟨hf, by omega⟩]; rfl
  · rintro n x H1 ⟨rfl, m, hm, hmk, rfl⟩
    rw [L_X7_edgeFor_6]
    simp (disch := omega) only [gd_nI, nI_clamp, g5, nI_le_iff, if_pos]
    exact ok_s ⟨by rw [bsE_eq hmk]; rfl, rfl⟩
theorem x7_begin {r n : Nat} {G : Gr} {H : Hp} (hb : gI H (r + 2) 1 10 = nI (qB G)) (w : WG G) (h0 : 0 < qB G) (hBs : ∀ b, b < qB G → gJ H (r + 2) 19 b = bsV G b) (hn : n < 2 ^ 62) : f_X7_beginningOf r (lN n) H = some (nI (clB G n (qB G)), H) := by
  have hB := w.1
  suffices hs : ok (f_X7_beginningOf r (lN n) H) (fun v H' => v = nI (clB G n (qB G)) ∧ H' = H) by
    obtain ⟨v, H', e, rfl, rfl⟩ := hs
    exact e
  unfold f_X7_beginningOf
  refine ok_g2 (qB G) (fun i x H' => H' = H ∧ x = nI (clB G n i)) ?_ ?_ rfl ⟨rfl, rfl⟩ (FUgt (by omega))
  · rintro i m x H1 hi ⟨rfl, rfl⟩ K1
    have hbl := bsS_lt w h0 (show i ≤ qB G by omega)
    have hv := hBs i hi
    rw [L_X7_beginningOf_5]
    unfold bsV at hv
    by_cases hh : hdB G i (qE G) = true
    · rw [if_pos hh] at hv
      simp (disch := omega) only [hb, nI_le_iff, if_neg, gd_nI, nI_clamp, hv, l0, c_eq, j_m1, if_false, c_gt, j_lt, vl, l1, nIadd]
      refine ok_if (fun hc => K1 _ _ ⟨rfl, ?_⟩) (fun hc => K1 _ _ ⟨rfl, ?_⟩)
      · show nI (clB G n i) = nI (if hdB G i (qE G) = true ∧ bsS G i ≤ n then i else clB G n i)
        rw [if_neg (by omega)]
      · show nI i = nI (if hdB G i (qE G) = true ∧ bsS G i ≤ n then i else clB G n i)
        rw [if_pos ⟨hh, by omega⟩]
    · rw [if_neg hh] at hv
      simp (disch := omega) only [hb, nI_le_iff, if_neg, gd_nI, nI_clamp, hv, l0, c_eq, if_true, vl, l1, nIadd]
      refine K1 _ _ ⟨rfl, ?_⟩
      show nI (clB G n i) = nI (if hdB G i (qE G) = true ∧ bsS G i ≤ n then i else clB G n i)
      rw [if_neg (fun z => hh z.1)]
  · rintro m x H1 ⟨rfl, rfl⟩
    rw [L_X7_beginningOf_5]
    simp (disch := omega) only [hb, nI_le_iff, if_pos]
    exact ok_s ⟨rfl, rfl⟩
abbrev LUN : List (Nat × Nat × Option Nat) := [(2, 2, some 9), (2, 24, none), (2, 25, none)]
/-- where the walk along a way stands -/
def stt (o : Option (Nat × Nat)) (x : Int32) (y : Int64) : Prop := match o with
  | none => x = N1
  | some z => x = nI z.1 ∧ y = lN z.2
theorem x7_unfold_53 {r : Nat} {G : Gr} {H : Hp} {x : Nat × Nat} {k : Hp → Option (Int32 × Hp)} {Q : Int32 → Hp → Prop} {rk : Nat → Nat} (h : CG r G H) (w : WG G) (hA : ∀ e, e < qE G → gJ H (r + 2) 21 e = lN (aD G e)) (hrk1 : ∀ b, b < qB G → rk b < qB G) (hrk : ∀ e, e < qE G → qW G e = false → rk (qT G e) < rk (qF G e)) (hx : x.1 < qB G) (hx2 : x.2 < 2 ^ 62) (hp : gI H (r + 2) 2 9 = nI 0) (K : ∀ len H', Ch TT LUN H H' → len ≤ qB G → gI H' (r + 2) 2 9 = nI len → Lay G x len (fun i => gI H' (r + 2) 24 i) (fun i => gI H' (r + 2) 25 i) → ok (k H') Q) : ok (L_X7_unfold_53 r k FU (nI x.1) (lN x.2) H) Q := by
  have hB := w.1
  have hE := w.2.1
  refine ok_w2 (fun d a b H' => ∃ i, i + d = qB G + 1 ∧ i ≤ qB G ∧ stt (pA G x i) a b ∧ Ch TT LUN H H' ∧ gI H' (r + 2) 2 9 = nI i ∧ ∀ j, j < i → ∃ y, pA G x j = some y ∧ gI H' (r + 2) 24 j = nI y.1 ∧ gI H' (r + 2) 25 j = eV (nxE G y.1 y.2)) ?_ (d := qB G + 1) ⟨0, by omega, by omega, ⟨rfl, rfl⟩, Ch.rf H, hp, fun j hj => absurd hj (Nat.not_lt_zero _)⟩ (FUgt (by omega))
  rintro d m a b H1 ⟨i, hid, hiB, hst, hC, hpi, hL⟩ K1
  have hG1 := CG_ch h hC rfl
  have hA1 : ∀ e, e < qE G → gJ H1 (r + 2) 21 e = lN (aD G e) := fun e he => by rw [hC.gj _ _ _ rfl]; exact hA e he
  rw [L_X7_unfold_53]
  cases hpa : pA G x i with
  | none =>
    rw [hpa] at hst
    have hst' : a = N1 := hst
    rw [hst', if_pos (show N1 = -1 from rfl)]
    exact K i H1 hC hiB hpi ⟨hL, hpa⟩
  | some y =>
    rw [hpa] at hst
    obtain ⟨rfl, rfl⟩ := hst
    obtain ⟨y1, y2, y3⟩ := pA_rk w hrk hx hpa
    have hr1 := hrk1 _ hx
    obtain ⟨a1, a2, -, -, -, -, -, -, a9, -, a11⟩ := id hG1
    have e1 : gI (sI H1 (r + 2) 24 i (nI y.1)) (r + 2) 2 9 = nI i := by rw [gI_ne (by omega)]; exact hpi
    have e2 : ∀ v, gI (sI (sI H1 (r + 2) 24 i (nI y.1)) (r + 2) 25 i v) (r + 2) 2 9 = nI i := fun v => by rw [gI_ne (by omega)]; exact e1
    have hC3 : ∀ v, Ch TT LUN H (sI (sI (sI H1 (r + 2) 24 i (nI y.1)) (r + 2) 25 i v) (r + 2) 2 9 (nI (i + 1))) := fun v => Ch.sI rfl rfl (Ch.sI rfl rfl (Ch.sI rfl rfl hC))
    have hL3 : ∀ j, j < i + 1 → ∃ z, pA G x j = some z ∧ gI (sI (sI (sI H1 (r + 2) 24 i (nI y.1)) (r + 2) 25 i (eV (nxE G y.1 y.2))) (r + 2) 2 9 (nI (i + 1))) (r + 2) 24 j = nI z.1 ∧ gI (sI (sI (sI H1 (r + 2) 24 i (nI y.1)) (r + 2) 25 i (eV (nxE G y.1 y.2))) (r + 2) 2 9 (nI (i + 1))) (r + 2) 25 j = eV (nxE G z.1 z.2) := by
      intro j hj
      by_cases q : j = i
      · rw [q]
        exact ⟨y, hpa, by rw [gI_ne (by omega), gI_ne (by omega), gI_eq], by rw [gI_ne (by omega), gI_eq]⟩
      · obtain ⟨z, z1, z2, z3⟩ := hL j (by omega)
        exact ⟨z, z1, by rw [gI_ne (by omega), gI_ne (by omega), gI_ne (by omega)]; exact z2, by rw [gI_ne (by omega), gI_ne (by omega), gI_ne (by omega)]; exact z3⟩
    have hN1 : (-1 : Int32) = N1 := rfl
    rw [if_neg (by rw [hN1, n_eqN (by omega)]; exact id), a1, hpi, if_neg (by rw [nI_le_iff (by omega) (by omega)]; omega), x7_edgeFor hG1 w hA1 y1 (by omega), bnd_s, hpi, gd_nI (by omega) (by decide), nI_clamp (n := i) (by omega), hl_e, e1, gd_nI (by omega) (by decide), nI_clamp (n := i) (by omega), hl_e, e2, hl_e]
    have hi1 : nI i + 1 = nI (i + 1) := (nI_succ i).symm
    rw [hi1]
    simp only [jn]
    have hpn := pA_s hpa
    unfold pS at hpn
    cases hnx : nxE G y.1 y.2 with
    | none =>
      rw [hnx] at hpn
      rw [hnx] at hL3
      have hC3' := hC3 (eV none)
      simp only [vl]
      rw [if_pos (show eV none = -1 from rfl), if_pos (show eV none = -1 from rfl)]
      exact K1 (d - 1) _ _ _ (by omega) ⟨i + 1, by omega, by omega, by rw [hpn]; exact hN1, hC3', gI_eq _ _ _ _ _, hL3⟩
    | some e =>
      rw [hnx] at hpn
      dsimp only at hpn
      rw [hnx] at hL3
      obtain ⟨f1, f2, f3⟩ := bsE_some hnx
      have hC3' := hC3 (eV (some e))
      have eve : eV (some e) = nI e := rfl
      rw [eve] at hL3 hC3' ⊢
      have e21 : gJ (sI (sI (sI H1 (r + 2) 24 i (nI y.1)) (r + 2) 25 i (nI e)) (r + 2) 2 9 (nI (i + 1))) (r + 2) 21 e = lN (aD G e) := by rw [gJ_sI, gJ_sI, gJ_sI]; exact hA1 e f1
      have e16 : gI (sI (sI (sI H1 (r + 2) 24 i (nI y.1)) (r + 2) 25 i (nI e)) (r + 2) 2 9 (nI (i + 1))) (r + 2) 16 e = bI (qW G e) := by rw [gI_ne (by omega), gI_ne (by omega), gI_ne (by omega)]; exact a11 e f1
      have e14 : gI (sI (sI (sI H1 (r + 2) 24 i (nI y.1)) (r + 2) 25 i (nI e)) (r + 2) 2 9 (nI (i + 1))) (r + 2) 14 e = nI (qT G e) := by rw [gI_ne (by omega), gI_ne (by omega), gI_ne (by omega)]; exact a9 e f1
      have hp3 : gI (sI (sI (sI H1 (r + 2) 24 i (nI y.1)) (r + 2) 25 i (nI e)) (r + 2) 2 9 (nI (i + 1))) (r + 2) 2 9 = nI (i + 1) := gI_eq _ _ _ _ _
      generalize sI (sI (sI H1 (r + 2) 24 i (nI y.1)) (r + 2) 25 i (nI e)) (r + 2) 2 9 (nI (i + 1)) = H3 at hL3 hC3' e21 e16 e14 hp3 ⊢
      have hne : ¬ nI e = -1 := by rw [hN1, n_eqN (by omega)]; exact id
      rw [if_neg hne, gd_nI (by omega) (by decide), nI_clamp (n := e) (by omega), e21]
      simp only [vl]
      rw [if_neg hne, gd_nI (by omega) (by decide), e16]
      cases hw : qW G e with
      | false =>
        rw [if_neg (bf_ne hw)] at hpn
        rw [if_pos (show bI false = 0 from rfl), gd_nI (by omega) (by decide), e14]
        exact K1 (d - 1) _ _ _ (by omega) ⟨i + 1, by omega, by omega, by rw [hpn]; exact ⟨rfl, lN_sub f3⟩, hC3', hp3, hL3⟩
      | true =>
        rw [if_pos hw] at hpn
        rw [if_neg (show ¬ bI true = 0 by decide)]
        exact K1 (d - 1) _ _ _ (by omega) ⟨i + 1, by omega, by omega, by rw [hpn]; exact hN1, hC3', hp3, hL3⟩
/-- whether it is a way's number -/
def isW (G : Gr) (a : Int64) : Prop := ∃ n, n < tot G ∧ a = lN n
theorem way_cases {G : Gr} (htl : tot G ≤ 1000000000000) (a : Int64) : (∃ n, n < tot G ∧ a = lN n ∧ ¬ a < 0 ∧ a < lN (tot G)) ∨ (¬ isW G a ∧ (a < 0 ∨ ¬ a < lN (tot G))) := by
  have h0 : (0 : Int64).toInt = 0 := by decide
  have ht := j_int (n := tot G) (by omega)
  by_cases h1 : a < 0
  · refine Or.inr ⟨?_, Or.inl h1⟩
    rintro ⟨n, hn, rfl⟩
    rw [Int64.lt_iff_toInt_lt, j_int (by omega), h0] at h1
    omega
  · by_cases h2 : a < lN (tot G)
    · left
      have h1' := h1
      have h2' := h2
      rw [Int64.lt_iff_toInt_lt, h0] at h1'
      rw [Int64.lt_iff_toInt_lt, ht] at h2'
      refine ⟨a.toInt.toNat, by omega, ?_, h1, h2⟩
      apply Int64.toInt_inj.mp
      rw [j_int (by omega)]
      omega
    · refine Or.inr ⟨?_, Or.inr h2⟩
      rintro ⟨n, hn, rfl⟩
      rw [j_lt (by omega) (by omega)] at h2
      exact h2 hn
theorem bgP_ok {G : Gr} (h0 : 0 < qB G) {n : Nat} (hn : n < tot G) : (bgP G n).1 < qB G ∧ (bgP G n).2 ≤ n := by
  unfold bgP
  by_cases q : n < nW G 0
  · rw [if_pos q]; exact ⟨h0, Nat.le_refl _⟩
  · rw [if_neg q]
    exact ⟨(bg_hi (by omega) hn).1, Nat.sub_le _ _⟩
theorem x7_unfold {r : Nat} {G : Gr} {H : Hp} (h : CG r G H) (w : WG G) (hw : why G = 0) (hW : CW r G H) (a : Int64) : ok (f_X7_unfold r a H) (fun v H' => Ch TT LUN H H' ∧ ((v = 0 ∧ ¬ isW G a ∧ gI H' (r + 2) 2 9 = nI 0) ∨ (∃ n len, n < tot G ∧ a = lN n ∧ v = 1 ∧ len ≤ qB G ∧ gI H' (r + 2) 2 9 = nI len ∧ Lay G (bgP G n) len (fun i => gI H' (r + 2) 24 i) (fun i => gI H' (r + 2) 25 i)))) := by
  obtain ⟨w4, w5, w6⟩ := why_0 hw
  obtain ⟨b0, b1, b2, b3⟩ := ff4_0 w4
  have hB := w.1
  have hz : ∀ b, b < qB G → nW G b ≠ 0 := fun b hb z => by
    have := allB_iff.mp w5 b hb
    rw [z] at this; cases this
  obtain ⟨rk, hrk1, hrk2⟩ := rank_ex w (allB_iff.mp b1) hz
  have hC0 : Ch TT LUN H (sI H (r + 2) 2 9 0) := Ch.sI rfl rfl (Ch.rf H)
  have hp0 : gI (sI H (r + 2) 2 9 0) (r + 2) 2 9 = nI 0 := by rw [gI_eq]; rfl
  unfold f_X7_unfold
  rw [hl_e]
  generalize sI H (r + 2) 2 9 0 = H0 at hC0 hp0 ⊢
  have hG0 := CG_ch h hC0 rfl
  have hW0 := CW_ch hW hC0 rfl
  obtain ⟨v1, v2, v3, v4⟩ := hW0
  rw [v4]
  simp only [l0, c_lt]
  rcases way_cases w6 a with ⟨n, hn, rfl, ha0, hat⟩ | ⟨hnw, hc⟩
  · rw [if_neg ha0, if_pos hat, x7_begin hG0.1 w b0 v2 (by omega), bnd_s]
    obtain ⟨p1, p2⟩ := bgP_ok b0 hn
    have n0l := nW_lt w b0
    have e18 : gJ H0 (r + 2) 18 (Int32.toNatClampNeg (nI 0)) = lN (nW G 0) := by rw [nI_clamp (by decide)]; exact v1 0 b0
    rw [gd_nI (by omega) (by decide)]
    simp only [jn, vl, e18, c_ge]
    have fin : ok (L_X7_unfold_53 r (fun H25 => some (1, H25)) FU (nI (bgP G n).1) (lN (bgP G n).2) H0) (fun v H' => Ch TT LUN H H' ∧ ((v = 0 ∧ ¬ isW G (lN n) ∧ gI H' (r + 2) 2 9 = nI 0) ∨ (∃ m len, m < tot G ∧ lN n = lN m ∧ v = 1 ∧ len ≤ qB G ∧ gI H' (r + 2) 2 9 = nI len ∧ Lay G (bgP G m) len (fun i => gI H' (r + 2) 24 i) (fun i => gI H' (r + 2) 25 i)))) := by
      refine x7_unfold_53 hG0 w v3 hrk1 hrk2 p1 (by omega) hp0 (fun len H' hC' hl' hp' hLy => ok_s ⟨Ch.tr (fun _ q => q) rfl hC0 hC', Or.inr ⟨n, len, hn, rfl, rfl, hl', hp', hLy⟩⟩)
    by_cases q : n < nW G 0
    · have hb : bgP G n = (0, n) := by unfold bgP; rw [if_pos q]
      rw [hb] at fin
      rw [if_neg (by rw [j_le (by omega) (by omega)]; omega), (bg_lo q (qB G)).1]
      have e0 : lN n - 0 = lN n := Int64.sub_zero _
      rw [e0]
      exact fin
    · have hb : bgP G n = (clB G n (qB G), n - bsS G (clB G n (qB G))) := by unfold bgP; rw [if_neg q]
      rw [hb] at fin p1
      obtain ⟨u1, u2, u3, u4⟩ := bg_hi (show nW G 0 ≤ n by omega) hn
      have e19 : gJ H0 (r + 2) 19 (clB G n (qB G)) = lN (bsS G (clB G n (qB G))) := by
        rw [v2 _ u1]; unfold bsV; rw [if_pos u2]
      rw [if_pos (by rw [j_le (by omega) (by omega)]; omega), gd_nI (by omega) (by decide), nI_clamp (n := clB G n (qB G)) (by omega), e19, lN_sub u3]
      exact fin
  · refine ok_if (fun _ => ok_s ⟨hC0, Or.inl ⟨rfl, hnw, hp0⟩⟩) (fun hn0 => ?_)
    rw [if_neg (hc.elim (fun z => absurd z hn0) id)]
    exact ok_s ⟨hC0, Or.inl ⟨rfl, hnw, hp0⟩⟩
